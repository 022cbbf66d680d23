theorem bk_X12_allowed {X : ZS} {σ : ZM} {T : Int → ZM → Prop} {x1 : Int} (h : ZC X (rX12_isLaw zN) mX12_isLaw [(2, 211), (0, x1)] zN σ (zQz (fun r1 σ2 => ((r1 = true) → Z X (rX12_allowed zN) mX12_allowed 14 [(2, 211), (0, x1), (0, 1), (0, 1), (9, 0)] [] zN σ2 (zQi T)) ∧ ((r1 = false) → T (-1) σ2)))) : ZC X (rX12_allowed zN) mX12_allowed [(2, 211), (0, x1)] zN σ (zQi T) := by
  show Z X _ _ 0 [(2, 211), (0, x1), (9, 0), (9, 0), (9, 0)] [] _ σ _
  refine Z_aload_n 0 dX12_allowed_0 rfl rfl ?_
  refine Z_iload_n 1 dX12_allowed_1 rfl rfl ?_
  refine Z_invV (T := TX12) (N := 30) (ci := 12) (M' := mX12_isLaw) (ρ' := rX12_isLaw zN) (st := []) [(0, x1)] dX12_allowed_2 rfl rfl la_211 (z_leN la_211 (by decide)) (by decide) rfl rfl (kX12_isLaw.cl (Nat.le_of_ble_eq_true rfl) (Nat.le_refl _) (Nat.le_refl _) (Nat.le_of_ble_eq_true rfl) (Nat.le_of_ble_eq_true rfl) (Nat.le_of_ble_eq_true rfl)) (mlX12_200 rfl) iX12_isLaw sX12_isLaw h (z_kz (fun r1 σ2 h => ?_))
  refine Z_zif_ne (tgt := 10) dX12_allowed_5 (by decide) (fun c => ?_) (fun c => ?_)
  · replace h := h.1 c
    refine Z_iconst dX12_allowed_10 ?_
    refine Z_istore_n (L' := [(2, 211), (0, x1), (0, 1), (9, 0), (9, 0)]) 2 dX12_allowed_11 rfl (Nat.le_of_ble_eq_true rfl) rfl ?_
    refine Z_iconst dX12_allowed_12 ?_
    refine Z_istore_n (L' := [(2, 211), (0, x1), (0, 1), (0, 1), (9, 0)]) 3 dX12_allowed_13 rfl (Nat.le_of_ble_eq_true rfl) rfl ?_
    exact Z_few (z_few_k (z_few_k (z_few_k (z_few_k (z_few_k z_few_0))))) h
  · replace h := h.2 c
    refine Z_iconst dX12_allowed_8 ?_
    exact Z_ireturn dX12_allowed_9 rfl rfl ⟨rfl, h⟩
theorem bk_X12_allowed_14 {X : ZS} {σ : ZM} {T : Int → ZM → Prop} {x1 : Int} {x2 : Int} {x3 : Int} (h : (r32 (σ 211 4)) ∧ (((σ 211 4) ≤ 1) → (r32 x2) ∧ ((x2 = 0) → T 1 σ) ∧ ((¬ x2 = 0) → T 2 σ)) ∧ ((¬ ((σ 211 4) ≤ 1)) → (0 ≤ ((σ 211 4) - 1)) ∧ (((σ 211 4) - 1) < 32) ∧ (r32 x3) ∧ (r32 (1 * 2 ^ ((σ 211 4) - 1).toNat)) ∧ (((1 * 2 ^ ((σ 211 4) - 1).toNat) ≤ x3) → (r32 x2) ∧ ((x2 = 0) → T 1 σ) ∧ ((¬ x2 = 0) → T 2 σ)) ∧ ((¬ ((1 * 2 ^ ((σ 211 4) - 1).toNat) ≤ x3)) → ZC X (rX12_minor zN) mX12_minor [(2, 211), (0, x1), (0, x3)] zN σ (zQi (fun r8 σ9 => (r32 r8) ∧ ((0 ≤ r8) → (r32 x2) ∧ ((x2 = 0) → Z X (rX12_allowed zN) mX12_allowed 14 [(2, 211), (0, x1), (0, 0), (0, (x3 + 1)), (9, 0)] [] zN σ9 (zQi T)) ∧ ((¬ x2 = 0) → ((r8 ≤ 0) → Z X (rX12_allowed zN) mX12_allowed 14 [(2, 211), (0, x1), (0, 0), (0, (x3 + 1)), (9, 0)] [] zN σ9 (zQi T)) ∧ ((¬ (r8 ≤ 0)) → Z X (rX12_allowed zN) mX12_allowed 14 [(2, 211), (0, x1), (0, 1), (0, (x3 + 1)), (9, 0)] [] zN σ9 (zQi T)))) ∧ ((¬ (0 ≤ r8)) → T 0 σ9)))))) : Z X (rX12_allowed zN) mX12_allowed 14 [(2, 211), (0, x1), (0, x2), (0, x3), (9, 0)] [] zN σ (zQi T) := by
  refine Z_aload_n 0 dX12_allowed_14 rfl rfl ?_
  refine Z_get (T := TX12) (N := 30) (ci := 12) (t := 0) 4 dX12_allowed_15 la_211 (z_leN la_211 (by decide)) rfl (by decide) inX12 (by decide) (flX12_167 rfl) rfl ?_
  refine Z_iconst dX12_allowed_18 ?_
  obtain ⟨g1, h⟩ := h
  refine Z_icmp_le (tgt := 70) dX12_allowed_19 (by decide) g1 ⟨by decide, by decide⟩ (fun c => ?_) (fun c => ?_)
  · replace h := h.1 c
    refine Z_iload_n 2 dX12_allowed_70 rfl rfl ?_
    obtain ⟨g2, h⟩ := h
    refine Z_if_eq (tgt := 78) dX12_allowed_71 (by decide) g2 (fun c => ?_) (fun c => ?_)
    · replace h := h.1 c
      refine Z_iconst dX12_allowed_78 ?_
      exact Z_ireturn dX12_allowed_79 rfl rfl ⟨rfl, h⟩
    · replace h := h.2 c
      refine Z_iconst dX12_allowed_74 ?_
      refine Z_goto (tgt := 79) dX12_allowed_75 (by decide) ?_
      exact Z_ireturn dX12_allowed_79 rfl rfl ⟨rfl, h⟩
  · replace h := h.2 c
    refine Z_iload_n 3 dX12_allowed_22 rfl rfl ?_
    refine Z_iconst dX12_allowed_23 ?_
    refine Z_aload_n 0 dX12_allowed_24 rfl rfl ?_
    refine Z_get (T := TX12) (N := 30) (ci := 12) (t := 0) 4 dX12_allowed_25 la_211 (z_leN la_211 (by decide)) rfl (by decide) inX12 (by decide) (flX12_167 rfl) rfl ?_
    refine Z_iconst dX12_allowed_28 ?_
    refine Z_isub dX12_allowed_29 ?_
    obtain ⟨g3, h⟩ := h
    obtain ⟨g4, h⟩ := h
    refine Z_ishl dX12_allowed_30 g3 g4  ?_
    obtain ⟨g5, h⟩ := h
    obtain ⟨g6, h⟩ := h
    refine Z_icmp_ge (tgt := 70) dX12_allowed_31 (by decide) g5 g6 (fun c => ?_) (fun c => ?_)
    · replace h := h.1 c
      refine Z_iload_n 2 dX12_allowed_70 rfl rfl ?_
      obtain ⟨g7, h⟩ := h
      refine Z_if_eq (tgt := 78) dX12_allowed_71 (by decide) g7 (fun c => ?_) (fun c => ?_)
      · replace h := h.1 c
        refine Z_iconst dX12_allowed_78 ?_
        exact Z_ireturn dX12_allowed_79 rfl rfl ⟨rfl, h⟩
      · replace h := h.2 c
        refine Z_iconst dX12_allowed_74 ?_
        refine Z_goto (tgt := 79) dX12_allowed_75 (by decide) ?_
        exact Z_ireturn dX12_allowed_79 rfl rfl ⟨rfl, h⟩
    · replace h := h.2 c
      refine Z_aload_n 0 dX12_allowed_34 rfl rfl ?_
      refine Z_iload_n 1 dX12_allowed_35 rfl rfl ?_
      refine Z_iload_n 3 dX12_allowed_36 rfl rfl ?_
      refine Z_invV (T := TX12) (N := 30) (ci := 12) (M' := mX12_minor) (ρ' := rX12_minor zN) (st := []) [(0, x1), (0, x3)] dX12_allowed_37 rfl rfl la_211 (z_leN la_211 (by decide)) (by decide) rfl rfl (kX12_minor.cl (Nat.le_of_ble_eq_true rfl) (Nat.le_refl _) (Nat.le_refl _) (Nat.le_of_ble_eq_true rfl) (Nat.le_of_ble_eq_true rfl) (Nat.le_of_ble_eq_true rfl)) (mlX12_272 rfl) iX12_minor sX12_minor h (z_ki (fun r8 σ9 h => ?_))
      refine Z_istore (L' := [(2, 211), (0, x1), (0, x2), (0, x3), (0, r8)]) dX12_allowed_40 (Nat.le_of_ble_eq_true rfl) rfl ?_
      refine Z_iload dX12_allowed_42 rfl ?_
      obtain ⟨g10, h⟩ := h
      refine Z_if_ge (tgt := 49) dX12_allowed_44 (by decide) g10 (fun c => ?_) (fun c => ?_)
      · replace h := h.1 c
        refine Z_iload_n 2 dX12_allowed_49 rfl rfl ?_
        obtain ⟨g11, h⟩ := h
        refine Z_if_eq (tgt := 62) dX12_allowed_50 (by decide) g11 (fun c => ?_) (fun c => ?_)
        · replace h := h.1 c
          refine Z_iconst dX12_allowed_62 ?_
          refine Z_istore_n (L' := [(2, 211), (0, x1), (0, 0), (0, x3), (0, r8)]) 2 dX12_allowed_63 rfl (Nat.le_of_ble_eq_true rfl) rfl ?_
          refine Z_iinc (L' := [(2, 211), (0, x1), (0, 0), (0, (x3 + 1)), (0, r8)]) dX12_allowed_64 rfl (Nat.le_of_ble_eq_true rfl) rfl ?_
          refine Z_goto (tgt := 14) dX12_allowed_67 (by decide) ?_
          exact Z_few (z_few_k (z_few_k (z_few_k (z_few_k (z_few_d z_few_0))))) h
        · replace h := h.2 c
          refine Z_iload dX12_allowed_53 rfl ?_
          refine Z_if_le (tgt := 62) dX12_allowed_55 (by decide) g10 (fun c => ?_) (fun c => ?_)
          · replace h := h.1 c
            refine Z_iconst dX12_allowed_62 ?_
            refine Z_istore_n (L' := [(2, 211), (0, x1), (0, 0), (0, x3), (0, r8)]) 2 dX12_allowed_63 rfl (Nat.le_of_ble_eq_true rfl) rfl ?_
            refine Z_iinc (L' := [(2, 211), (0, x1), (0, 0), (0, (x3 + 1)), (0, r8)]) dX12_allowed_64 rfl (Nat.le_of_ble_eq_true rfl) rfl ?_
            refine Z_goto (tgt := 14) dX12_allowed_67 (by decide) ?_
            exact Z_few (z_few_k (z_few_k (z_few_k (z_few_k (z_few_d z_few_0))))) h
          · replace h := h.2 c
            refine Z_iconst dX12_allowed_58 ?_
            refine Z_goto (tgt := 63) dX12_allowed_59 (by decide) ?_
            refine Z_istore_n (L' := [(2, 211), (0, x1), (0, 1), (0, x3), (0, r8)]) 2 dX12_allowed_63 rfl (Nat.le_of_ble_eq_true rfl) rfl ?_
            refine Z_iinc (L' := [(2, 211), (0, x1), (0, 1), (0, (x3 + 1)), (0, r8)]) dX12_allowed_64 rfl (Nat.le_of_ble_eq_true rfl) rfl ?_
            refine Z_goto (tgt := 14) dX12_allowed_67 (by decide) ?_
            exact Z_few (z_few_k (z_few_k (z_few_k (z_few_k (z_few_d z_few_0))))) h
      · replace h := h.2 c
        refine Z_iconst dX12_allowed_47 ?_
        exact Z_ireturn dX12_allowed_48 rfl rfl ⟨rfl, h⟩
theorem bk_X12_band0 {X : ZS} {σ : ZM} {T : Int → ZM → Prop} {x1 : Int} {x2 : Int} (h : Z X (rX12_band0 zN) mX12_band0 10 [(2, 211), (0, x1), (0, x2), (0, 0), (0, 0), (9, 0), (9, 0)] [] zN (z_up σ 211 29 0) (zQi T)) : ZC X (rX12_band0 zN) mX12_band0 [(2, 211), (0, x1), (0, x2)] zN σ (zQi T) := by
  show Z X _ _ 0 [(2, 211), (0, x1), (0, x2), (9, 0), (9, 0), (9, 0), (9, 0)] [] _ σ _
  refine Z_iconst dX12_band0_0 ?_
  refine Z_istore_n (L' := [(2, 211), (0, x1), (0, x2), (0, 0), (9, 0), (9, 0), (9, 0)]) 3 dX12_band0_1 rfl (Nat.le_of_ble_eq_true rfl) rfl ?_
  refine Z_aload_n 0 dX12_band0_2 rfl rfl ?_
  refine Z_lconst (x := 0) dX12_band0_3 rfl ?_
  refine Z_put (T := TX12) (N := 30) (ci := 12) (t := 1) tyX12 29 dX12_band0_4 la_211 (z_leN la_211 (by decide)) rfl (by decide) inX12 (by decide) (plX12_275 rfl) rfl tyX12_ok nmX12 rfl (z_nf_l _) ?_
  refine Z_iconst dX12_band0_7 ?_
  refine Z_istore (L' := [(2, 211), (0, x1), (0, x2), (0, 0), (0, 0), (9, 0), (9, 0)]) dX12_band0_8 (Nat.le_of_ble_eq_true rfl) rfl ?_
  exact Z_few (z_few_k (z_few_k (z_few_k (z_few_k (z_few_k (z_few_k (z_few_k z_few_0))))))) h
theorem bk_X12_band0_10 {X : ZS} {σ : ZM} {T : Int → ZM → Prop} {x1 : Int} {x2 : Int} {x3 : Int} {x4 : Int} (h : (r32 x4) ∧ (r32 (σ 211 4)) ∧ (((σ 211 4) ≤ x4) → T x3 σ) ∧ ((¬ ((σ 211 4) ≤ x4)) → Z X (rX12_band0 zN) mX12_band0 22 [(2, 211), (0, x1), (0, x2), (0, x3), (0, x4), (0, 0), (9, 0)] [] zN σ (zQi T))) : Z X (rX12_band0 zN) mX12_band0 10 [(2, 211), (0, x1), (0, x2), (0, x3), (0, x4), (9, 0), (9, 0)] [] zN σ (zQi T) := by
  refine Z_iload dX12_band0_10 rfl ?_
  refine Z_aload_n 0 dX12_band0_12 rfl rfl ?_
  refine Z_get (T := TX12) (N := 30) (ci := 12) (t := 0) 4 dX12_band0_13 la_211 (z_leN la_211 (by decide)) rfl (by decide) inX12 (by decide) (flX12_167 rfl) rfl ?_
  obtain ⟨g1, h⟩ := h
  obtain ⟨g2, h⟩ := h
  refine Z_icmp_ge (tgt := 134) dX12_band0_16 (by decide) g1 g2 (fun c => ?_) (fun c => ?_)
  · replace h := h.1 c
    refine Z_iload_n 3 dX12_band0_134 rfl rfl ?_
    exact Z_ireturn dX12_band0_135 rfl rfl ⟨rfl, h⟩
  · replace h := h.2 c
    refine Z_iconst dX12_band0_19 ?_
    refine Z_istore (L' := [(2, 211), (0, x1), (0, x2), (0, x3), (0, x4), (0, 0), (9, 0)]) dX12_band0_20 (Nat.le_of_ble_eq_true rfl) rfl ?_
    exact Z_few (z_few_k (z_few_k (z_few_k (z_few_k (z_few_k (z_few_k (z_few_k z_few_0))))))) h
theorem bk_X12_band0_22 {X : ZS} {σ : ZM} {T : Int → ZM → Prop} {x1 : Int} {x2 : Int} {x3 : Int} {x4 : Int} {x5 : Int} (h : (r32 x5) ∧ (r32 x4) ∧ ((x4 ≤ x5) → Z X (rX12_band0 zN) mX12_band0 10 [(2, 211), (0, x1), (0, x2), (0, x3), (0, (x4 + 1)), (9, 0), (9, 0)] [] zN σ (zQi T)) ∧ ((¬ (x4 ≤ x5)) → (Fix σ) ∧ (0 ≤ x4) ∧ (x4 < 8) ∧ (0 ≤ x5) ∧ (x5 < 8) ∧ ZC X (rX12_way zN) mX12_way [(0, (σ 216 x4)), (0, (σ 217 x4)), (0, (σ 216 x5)), (0, (σ 217 x5))] zN σ (zQi (fun r8 σ9 => (r32 r8) ∧ (r32 x1) ∧ ((r8 < x1) → Z X (rX12_band0 zN) mX12_band0 22 [(2, 211), (0, x1), (0, x2), (0, x3), (0, x4), (0, (x5 + 1)), (9, 0)] [] zN σ9 (zQi T)) ∧ ((¬ (r8 < x1)) → (r32 x2) ∧ ((r8 ≤ x2) → (Fix σ9) ∧ (r32 ((σ9 218 x4) - (σ9 218 x5))) ∧ Z X (rX12_band0 zN) mX12_band0 22 [(2, 211), (0, x1), (0, x2), (0, (x3 + 1)), (0, x4), (0, (x5 + 1)), (9, 0)] [] zN (z_up σ9 211 29 ((σ9 211 29) + (((σ9 218 x4) - (σ9 218 x5)) * ((σ9 218 x4) - (σ9 218 x5))))) (zQi T)) ∧ ((¬ (r8 ≤ x2)) → Z X (rX12_band0 zN) mX12_band0 22 [(2, 211), (0, x1), (0, x2), (0, x3), (0, x4), (0, (x5 + 1)), (9, 0)] [] zN σ9 (zQi T))))))) : Z X (rX12_band0 zN) mX12_band0 22 [(2, 211), (0, x1), (0, x2), (0, x3), (0, x4), (0, x5), (9, 0)] [] zN σ (zQi T) := by
  refine Z_iload dX12_band0_22 rfl ?_
  refine Z_iload dX12_band0_24 rfl ?_
  obtain ⟨g1, h⟩ := h
  obtain ⟨g2, h⟩ := h
  refine Z_icmp_ge (tgt := 128) dX12_band0_26 (by decide) g1 g2 (fun c => ?_) (fun c => ?_)
  · replace h := h.1 c
    refine Z_iinc (L' := [(2, 211), (0, x1), (0, x2), (0, x3), (0, (x4 + 1)), (0, x5), (9, 0)]) dX12_band0_128 rfl (Nat.le_of_ble_eq_true rfl) rfl ?_
    refine Z_goto (tgt := 10) dX12_band0_131 (by decide) ?_
    exact Z_few (z_few_k (z_few_k (z_few_k (z_few_k (z_few_k (z_few_d (z_few_k z_few_0))))))) h
  · replace h := h.2 c
    refine Z_aload_n 0 dX12_band0_29 rfl rfl ?_
    obtain ⟨g3, h⟩ := h
    refine Z_get (T := TX12) (N := 30) (ci := 12) (t := 2) 5 dX12_band0_30 la_211 (z_leN la_211 (by decide)) rfl (by decide) inX12 (by decide) (flX12_23 rfl) rfl ?_
    refine Z_top (y := 216) ((Fix.get g3 la_211 5 5 (by decide +kernel)).trans (by clear h; omega)) ?_
    refine Z_iload dX12_band0_33 rfl ?_
    obtain ⟨g4, h⟩ := h
    obtain ⟨g5, h⟩ := h
    refine Z_iald dX12_band0_35 la_216 (z_leN la_216 (by decide)) g4 g5 ?_
    refine Z_aload_n 0 dX12_band0_36 rfl rfl ?_
    refine Z_get (T := TX12) (N := 30) (ci := 12) (t := 2) 6 dX12_band0_37 la_211 (z_leN la_211 (by decide)) rfl (by decide) inX12 (by decide) (flX12_26 rfl) rfl ?_
    refine Z_top (y := 217) ((Fix.get g3 la_211 6 6 (by decide +kernel)).trans (by clear h; omega)) ?_
    refine Z_iload dX12_band0_40 rfl ?_
    refine Z_iald dX12_band0_42 la_217 (z_leN la_217 (by decide)) g4 g5 ?_
    refine Z_aload_n 0 dX12_band0_43 rfl rfl ?_
    refine Z_get (T := TX12) (N := 30) (ci := 12) (t := 2) 5 dX12_band0_44 la_211 (z_leN la_211 (by decide)) rfl (by decide) inX12 (by decide) (flX12_23 rfl) rfl ?_
    refine Z_top (y := 216) ((Fix.get g3 la_211 5 5 (by decide +kernel)).trans (by clear h; omega)) ?_
    refine Z_iload dX12_band0_47 rfl ?_
    obtain ⟨g6, h⟩ := h
    obtain ⟨g7, h⟩ := h
    refine Z_iald dX12_band0_49 la_216 (z_leN la_216 (by decide)) g6 g7 ?_
    refine Z_aload_n 0 dX12_band0_50 rfl rfl ?_
    refine Z_get (T := TX12) (N := 30) (ci := 12) (t := 2) 6 dX12_band0_51 la_211 (z_leN la_211 (by decide)) rfl (by decide) inX12 (by decide) (flX12_26 rfl) rfl ?_
    refine Z_top (y := 217) ((Fix.get g3 la_211 6 6 (by decide +kernel)).trans (by clear h; omega)) ?_
    refine Z_iload dX12_band0_54 rfl ?_
    refine Z_iald dX12_band0_56 la_217 (z_leN la_217 (by decide)) g6 g7 ?_
    refine Z_invS (M' := mX12_way) (ρ' := rX12_way zN) (st := []) [(0, (σ 216 x4)), (0, (σ 217 x4)), (0, (σ 216 x5)), (0, (σ 217 x5))] dX12_band0_57 rfl rfl (kX12_way.cl (Nat.le_of_ble_eq_true rfl) (Nat.le_refl _) (Nat.le_refl _) (Nat.le_of_ble_eq_true rfl) (Nat.le_of_ble_eq_true rfl) (Nat.le_of_ble_eq_true rfl)) (mlX12_207 rfl) sX12_way h (z_ki (fun r8 σ9 h => ?_))
    refine Z_istore (L' := [(2, 211), (0, x1), (0, x2), (0, x3), (0, x4), (0, x5), (0, r8)]) dX12_band0_60 (Nat.le_of_ble_eq_true rfl) rfl ?_
    refine Z_iload dX12_band0_62 rfl ?_
    refine Z_iload_n 1 dX12_band0_64 rfl rfl ?_
    obtain ⟨g10, h⟩ := h
    obtain ⟨g11, h⟩ := h
    refine Z_icmp_lt (tgt := 122) dX12_band0_65 (by decide) g10 g11 (fun c => ?_) (fun c => ?_)
    · replace h := h.1 c
      refine Z_iinc (L' := [(2, 211), (0, x1), (0, x2), (0, x3), (0, x4), (0, (x5 + 1)), (0, r8)]) dX12_band0_122 rfl (Nat.le_of_ble_eq_true rfl) rfl ?_
      refine Z_goto (tgt := 22) dX12_band0_125 (by decide) ?_
      exact Z_few (z_few_k (z_few_k (z_few_k (z_few_k (z_few_k (z_few_k (z_few_d z_few_0))))))) h
    · replace h := h.2 c
      refine Z_iload dX12_band0_68 rfl ?_
      refine Z_iload_n 2 dX12_band0_70 rfl rfl ?_
      obtain ⟨g12, h⟩ := h
      refine Z_icmp_le (tgt := 77) dX12_band0_71 (by decide) g10 g12 (fun c => ?_) (fun c => ?_)
      · replace h := h.1 c
        refine Z_iinc (L' := [(2, 211), (0, x1), (0, x2), (0, (x3 + 1)), (0, x4), (0, x5), (0, r8)]) dX12_band0_77 rfl (Nat.le_of_ble_eq_true rfl) rfl ?_
        refine Z_aload_n 0 dX12_band0_80 rfl rfl ?_
        refine Z_dup dX12_band0_81 (by simp) ?_
        refine Z_get (T := TX12) (N := 30) (ci := 12) (t := 1) 29 dX12_band0_82 la_211 (z_leN la_211 (by decide)) rfl (by decide) inX12 (by decide) (flX12_275 rfl) rfl ?_
        refine Z_aload_n 0 dX12_band0_85 rfl rfl ?_
        obtain ⟨g13, h⟩ := h
        refine Z_get (T := TX12) (N := 30) (ci := 12) (t := 2) 7 dX12_band0_86 la_211 (z_leN la_211 (by decide)) rfl (by decide) inX12 (by decide) (flX12_29 rfl) rfl ?_
        refine Z_top (y := 218) ((Fix.get g13 la_211 7 7 (by decide +kernel)).trans (by clear h; omega)) ?_
        refine Z_iload dX12_band0_89 rfl ?_
        refine Z_iald dX12_band0_91 la_218 (z_leN la_218 (by decide)) g4 g5 ?_
        refine Z_aload_n 0 dX12_band0_92 rfl rfl ?_
        refine Z_get (T := TX12) (N := 30) (ci := 12) (t := 2) 7 dX12_band0_93 la_211 (z_leN la_211 (by decide)) rfl (by decide) inX12 (by decide) (flX12_29 rfl) rfl ?_
        refine Z_top (y := 218) ((Fix.get g13 la_211 7 7 (by decide +kernel)).trans (by clear h; omega)) ?_
        refine Z_iload dX12_band0_96 rfl ?_
        refine Z_iald dX12_band0_98 la_218 (z_leN la_218 (by decide)) g6 g7 ?_
        refine Z_isub dX12_band0_99 ?_
        obtain ⟨g14, h⟩ := h
        refine Z_i2l dX12_band0_100 g14 ?_
        refine Z_aload_n 0 dX12_band0_101 rfl rfl ?_
        refine Z_get (T := TX12) (N := 30) (ci := 12) (t := 2) 7 dX12_band0_102 la_211 (z_leN la_211 (by decide)) rfl (by decide) inX12 (by decide) (flX12_29 rfl) rfl ?_
        refine Z_top (y := 218) ((Fix.get g13 la_211 7 7 (by decide +kernel)).trans (by clear h; omega)) ?_
        refine Z_iload dX12_band0_105 rfl ?_
        refine Z_iald dX12_band0_107 la_218 (z_leN la_218 (by decide)) g4 g5 ?_
        refine Z_aload_n 0 dX12_band0_108 rfl rfl ?_
        refine Z_get (T := TX12) (N := 30) (ci := 12) (t := 2) 7 dX12_band0_109 la_211 (z_leN la_211 (by decide)) rfl (by decide) inX12 (by decide) (flX12_29 rfl) rfl ?_
        refine Z_top (y := 218) ((Fix.get g13 la_211 7 7 (by decide +kernel)).trans (by clear h; omega)) ?_
        refine Z_iload dX12_band0_112 rfl ?_
        refine Z_iald dX12_band0_114 la_218 (z_leN la_218 (by decide)) g6 g7 ?_
        refine Z_isub dX12_band0_115 ?_
        refine Z_i2l dX12_band0_116 g14 ?_
        refine Z_lmul dX12_band0_117 ?_
        refine Z_ladd dX12_band0_118 ?_
        refine Z_put (T := TX12) (N := 30) (ci := 12) (t := 1) tyX12 29 dX12_band0_119 la_211 (z_leN la_211 (by decide)) rfl (by decide) inX12 (by decide) (plX12_275 rfl) rfl tyX12_ok nmX12 rfl (z_nf_l _) ?_
        refine Z_iinc (L' := [(2, 211), (0, x1), (0, x2), (0, (x3 + 1)), (0, x4), (0, (x5 + 1)), (0, r8)]) dX12_band0_122 rfl (Nat.le_of_ble_eq_true rfl) rfl ?_
        refine Z_goto (tgt := 22) dX12_band0_125 (by decide) ?_
        exact Z_few (z_few_k (z_few_k (z_few_k (z_few_k (z_few_k (z_few_k (z_few_d z_few_0))))))) h
      · replace h := h.2 c
        refine Z_goto (tgt := 122) dX12_band0_74 (by decide) ?_
        refine Z_iinc (L' := [(2, 211), (0, x1), (0, x2), (0, x3), (0, x4), (0, (x5 + 1)), (0, r8)]) dX12_band0_122 rfl (Nat.le_of_ble_eq_true rfl) rfl ?_
        refine Z_goto (tgt := 22) dX12_band0_125 (by decide) ?_
        exact Z_few (z_few_k (z_few_k (z_few_k (z_few_k (z_few_k (z_few_k (z_few_d z_few_0))))))) h
theorem bk_X12_pairs {X : ZS} {σ : ZM} {T : Int → ZM → Prop} {x1 : Int} {x2 : Int} (h : ZC X (rX12_band0 zN) mX12_band0 [(2, 211), (0, x1), (0, x2)] zN σ (zQi (fun r1 σ2 => T r1 σ2))) : ZC X (rX12_pairs zN) mX12_pairs [(2, 211), (0, x1), (0, x2)] zN σ (zQi T) := by
  show Z X _ _ 0 [(2, 211), (0, x1), (0, x2)] [] _ σ _
  refine Z_aload_n 0 dX12_pairs_0 rfl rfl ?_
  refine Z_iload_n 1 dX12_pairs_1 rfl rfl ?_
  refine Z_iload_n 2 dX12_pairs_2 rfl rfl ?_
  refine Z_invV (T := TX12) (N := 30) (ci := 12) (M' := mX12_band0) (ρ' := rX12_band0 zN) (st := []) [(0, x1), (0, x2)] dX12_pairs_3 rfl rfl la_211 (z_leN la_211 (by decide)) (by decide) rfl rfl (kX12_band0.cl (Nat.le_of_ble_eq_true rfl) (Nat.le_refl _) (Nat.le_refl _) (Nat.le_of_ble_eq_true rfl) (Nat.le_of_ble_eq_true rfl) (Nat.le_of_ble_eq_true rfl)) (mlX12_279 rfl) iX12_band0 sX12_band0 h (z_ki (fun r1 σ2 h => ?_))
  exact Z_ireturn dX12_pairs_6 rfl rfl ⟨rfl, h⟩
theorem bk_X12_band {X : ZS} {σ : ZM} {T : Bool → ZM → Prop} {x1 : Int} {x2 : Int} (h : ZC X (rX12_band0 zN) mX12_band0 [(2, 211), (0, x1), (0, x2)] zN σ (zQi (fun r1 σ2 => (r32 r1) ∧ ((¬ r1 = 0) → ZC X (rX12_set zN) mX12_set [(2, 211), (0, 5), (1, (σ2 211 29))] zN σ2 (zQv (fun σ5 => ZC X (rX12_set zN) mX12_set [(2, 211), (0, 6), (1, (2 * r1))] zN σ5 (zQv (fun σ7 => ZC X (rX12_result zN) mX12_result [(2, 211), (0, 5), (0, 6)] zN σ7 (zQv (fun σ9 => T true σ9))))))) ∧ ((r1 = 0) → T false σ2)))) : ZC X (rX12_band zN) mX12_band [(2, 211), (0, x1), (0, x2)] zN σ (zQz T) := by
  show Z X _ _ 0 [(2, 211), (0, x1), (0, x2), (9, 0)] [] _ σ _
  refine Z_aload_n 0 dX12_band_0 rfl rfl ?_
  refine Z_iload_n 1 dX12_band_1 rfl rfl ?_
  refine Z_iload_n 2 dX12_band_2 rfl rfl ?_
  refine Z_invV (T := TX12) (N := 30) (ci := 12) (M' := mX12_band0) (ρ' := rX12_band0 zN) (st := []) [(0, x1), (0, x2)] dX12_band_3 rfl rfl la_211 (z_leN la_211 (by decide)) (by decide) rfl rfl (kX12_band0.cl (Nat.le_of_ble_eq_true rfl) (Nat.le_refl _) (Nat.le_refl _) (Nat.le_of_ble_eq_true rfl) (Nat.le_of_ble_eq_true rfl) (Nat.le_of_ble_eq_true rfl)) (mlX12_279 rfl) iX12_band0 sX12_band0 h (z_ki (fun r1 σ2 h => ?_))
  refine Z_istore_n (L' := [(2, 211), (0, x1), (0, x2), (0, r1)]) 3 dX12_band_6 rfl (Nat.le_of_ble_eq_true rfl) rfl ?_
  refine Z_iload_n 3 dX12_band_7 rfl rfl ?_
  obtain ⟨g3, h⟩ := h
  refine Z_if_ne (tgt := 13) dX12_band_8 (by decide) g3 (fun c => ?_) (fun c => ?_)
  · replace h := h.1 c
    refine Z_aload_n 0 dX12_band_13 rfl rfl ?_
    refine Z_iconst dX12_band_14 ?_
    refine Z_aload_n 0 dX12_band_15 rfl rfl ?_
    refine Z_get (T := TX12) (N := 30) (ci := 12) (t := 1) 29 dX12_band_16 la_211 (z_leN la_211 (by decide)) rfl (by decide) inX12 (by decide) (flX12_275 rfl) rfl ?_
    refine Z_invV (T := TX12) (N := 30) (ci := 12) (M' := mX12_set) (ρ' := rX12_set zN) (st := []) [(0, 5), (1, (σ2 211 29))] dX12_band_19 rfl rfl la_211 (z_leN la_211 (by decide)) (by decide) rfl rfl (kX12_set.cl (Nat.le_of_ble_eq_true rfl) (Nat.le_refl _) (Nat.le_refl _) (Nat.le_of_ble_eq_true rfl) (Nat.le_of_ble_eq_true rfl) (Nat.le_of_ble_eq_true rfl)) (mlX12_73 rfl) iX12_set sX12_set h (z_kv (fun σ5 h => ?_))
    refine Z_aload_n 0 dX12_band_22 rfl rfl ?_
    refine Z_bipush dX12_band_23 (by decide) ?_
    refine Z_ldc2 (x := 2) dX12_band_25 ctX12_112 rfl ?_
    refine Z_iload_n 3 dX12_band_28 rfl rfl ?_
    refine Z_i2l dX12_band_29 g3 ?_
    refine Z_lmul dX12_band_30 ?_
    refine Z_invV (T := TX12) (N := 30) (ci := 12) (M' := mX12_set) (ρ' := rX12_set zN) (st := []) [(0, 6), (1, (2 * r1))] dX12_band_31 rfl rfl la_211 (z_leN la_211 (by decide)) (by decide) rfl rfl (kX12_set.cl (Nat.le_of_ble_eq_true rfl) (Nat.le_refl _) (Nat.le_refl _) (Nat.le_of_ble_eq_true rfl) (Nat.le_of_ble_eq_true rfl) (Nat.le_of_ble_eq_true rfl)) (mlX12_73 rfl) iX12_set sX12_set h (z_kv (fun σ7 h => ?_))
    refine Z_aload_n 0 dX12_band_34 rfl rfl ?_
    refine Z_iconst dX12_band_35 ?_
    refine Z_bipush dX12_band_36 (by decide) ?_
    refine Z_invV (T := TX12) (N := 30) (ci := 12) (M' := mX12_result) (ρ' := rX12_result zN) (st := []) [(0, 5), (0, 6)] dX12_band_38 rfl rfl la_211 (z_leN la_211 (by decide)) (by decide) rfl rfl (kX12_result.cl (Nat.le_of_ble_eq_true rfl) (Nat.le_refl _) (Nat.le_refl _) (Nat.le_of_ble_eq_true rfl) (Nat.le_of_ble_eq_true rfl) (Nat.le_of_ble_eq_true rfl)) (mlX12_254 rfl) iX12_result sX12_result h (z_kv (fun σ9 h => ?_))
    refine Z_iconst dX12_band_41 ?_
    exact Z_zreturn dX12_band_42 rfl (Or.inr rfl) rfl ⟨rfl, true, rfl, h⟩
  · replace h := h.2 c
    refine Z_iconst dX12_band_11 ?_
    exact Z_zreturn dX12_band_12 rfl (Or.inl rfl) rfl ⟨rfl, false, rfl, h⟩
theorem bk_X12_manyParts {X : ZS} {σ : ZM} {T : Int → ZM → Prop} {p1 : Int} (hp1 : z_l p1 = (21, 16)) (h : ZC X (rX12_length zN) mX12_length [(2, p1)] zN σ (zQi (fun r1 σ2 => (r32 r1) ∧ ((¬ r1 = 0) → T r1 σ2) ∧ ((r1 = 0) → T 1 σ2)))) : ZC X (rX12_manyParts zN) mX12_manyParts [(2, 211), (2, p1)] zN σ (zQi T) := by
  show Z X _ _ 0 [(2, 211), (2, p1), (9, 0)] [] _ σ _
  refine Z_aload_n 1 dX12_manyParts_0 rfl rfl ?_
  refine Z_invS (M' := mX12_length) (ρ' := rX12_length zN) (st := []) [(2, p1)] dX12_manyParts_1 rfl rfl (kX12_length.cl (Nat.le_of_ble_eq_true rfl) (Nat.le_refl _) (Nat.le_refl _) (Nat.le_of_ble_eq_true rfl) (Nat.le_of_ble_eq_true rfl) (Nat.le_of_ble_eq_true rfl)) (mlX12_106 rfl) sX12_length h (z_ki (fun r1 σ2 h => ?_))
  refine Z_istore_n (L' := [(2, 211), (2, p1), (0, r1)]) 2 dX12_manyParts_4 rfl (Nat.le_of_ble_eq_true rfl) rfl ?_
  refine Z_iload_n 2 dX12_manyParts_5 rfl rfl ?_
  obtain ⟨g3, h⟩ := h
  refine Z_if_ne (tgt := 13) dX12_manyParts_6 (by decide) g3 (fun c => ?_) (fun c => ?_)
  · replace h := h.1 c
    refine Z_iload_n 2 dX12_manyParts_13 rfl rfl ?_
    exact Z_ireturn dX12_manyParts_14 rfl rfl ⟨rfl, h⟩
  · replace h := h.2 c
    refine Z_iconst dX12_manyParts_9 ?_
    refine Z_goto (tgt := 14) dX12_manyParts_10 (by decide) ?_
    exact Z_ireturn dX12_manyParts_14 rfl rfl ⟨rfl, h⟩
theorem bk_X12_look {X : ZS} {σ : ZM} {T : Int → ZM → Prop} {x1 : Int} (h : (r32 x1) ∧ ((¬ x1 = 0) → ((x1 = 1) → ((¬ x1 = 1) → (Fix σ) ∧ ZC X (rX12_bare zN) mX12_bare [(2, 211), (0, 1), (2, 221)] zN σ (zQv (fun σ4 => (Fix σ4) ∧ ZC X (rX12_manyParts zN) mX12_manyParts [(2, 211), (2, 221)] zN σ4 (zQi (fun r6 σ7 => T r6 σ7))))) ∧ ((x1 = 1) → (Fix σ) ∧ ZC X (rX12_bare zN) mX12_bare [(2, 211), (0, 0), (2, 221)] zN σ (zQv (fun σ10 => (Fix σ10) ∧ ZC X (rX12_manyParts zN) mX12_manyParts [(2, 211), (2, 221)] zN σ10 (zQi (fun r12 σ13 => T r12 σ13)))))) ∧ ((¬ x1 = 1) → ((x1 = 2) → ((¬ x1 = 1) → (Fix σ) ∧ ZC X (rX12_bare zN) mX12_bare [(2, 211), (0, 1), (2, 221)] zN σ (zQv (fun σ16 => (Fix σ16) ∧ ZC X (rX12_manyParts zN) mX12_manyParts [(2, 211), (2, 221)] zN σ16 (zQi (fun r18 σ19 => T r18 σ19))))) ∧ ((x1 = 1) → (Fix σ) ∧ ZC X (rX12_bare zN) mX12_bare [(2, 211), (0, 0), (2, 221)] zN σ (zQv (fun σ22 => (Fix σ22) ∧ ZC X (rX12_manyParts zN) mX12_manyParts [(2, 211), (2, 221)] zN σ22 (zQi (fun r24 σ25 => T r24 σ25)))))) ∧ ((¬ x1 = 2) → T (-1) σ))) ∧ ((x1 = 0) → ZC X (rX12_sign zN) mX12_sign [(2, 211), (0, 0)] zN σ (zQi (fun r26 σ27 => T r26 σ27)))) : ZC X (rX12_look zN) mX12_look [(2, 211), (0, x1)] zN σ (zQi T) := by
  show Z X _ _ 0 [(2, 211), (0, x1)] [] _ σ _
  refine Z_iload_n 1 dX12_look_0 rfl rfl ?_
  obtain ⟨g1, h⟩ := h
  refine Z_if_ne (tgt := 10) dX12_look_1 (by decide) g1 (fun c => ?_) (fun c => ?_)
  · replace h := h.1 c
    refine Z_iload_n 1 dX12_look_10 rfl rfl ?_
    refine Z_iconst dX12_look_11 ?_
    refine Z_icmp_eq (tgt := 22) dX12_look_12 (by decide) g1 ⟨by decide, by decide⟩ (fun c => ?_) (fun c => ?_)
    · replace h := h.1 c
      refine Z_aload_n 0 dX12_look_22 rfl rfl ?_
      refine Z_iload_n 1 dX12_look_23 rfl rfl ?_
      refine Z_iconst dX12_look_24 ?_
      refine Z_icmp_ne (tgt := 32) dX12_look_25 (by decide) g1 ⟨by decide, by decide⟩ (fun c => ?_) (fun c => ?_)
      · replace h := h.1 c
        refine Z_iconst dX12_look_32 ?_
        refine Z_aload_n 0 dX12_look_33 rfl rfl ?_
        obtain ⟨g2, h⟩ := h
        refine Z_get (T := TX12) (N := 30) (ci := 12) (t := 2) 14 dX12_look_34 la_211 (z_leN la_211 (by decide)) rfl (by decide) inX12 (by decide) (flX12_45 rfl) rfl ?_
        refine Z_top (y := 221) ((Fix.get g2 la_211 14 10 (by decide +kernel)).trans (by clear h; omega)) ?_
        refine Z_invV (T := TX12) (N := 30) (ci := 12) (M' := mX12_bare) (ρ' := rX12_bare zN) (st := []) [(0, 1), (2, 221)] dX12_look_37 rfl rfl la_211 (z_leN la_211 (by decide)) (by decide) rfl rfl (kX12_bare.cl (Nat.le_of_ble_eq_true rfl) (Nat.le_refl _) (Nat.le_refl _) (Nat.le_of_ble_eq_true rfl) (Nat.le_of_ble_eq_true rfl) (Nat.le_of_ble_eq_true rfl)) (mlX12_102 rfl) iX12_bare sX12_bare h (z_kv (fun σ4 h => ?_))
        refine Z_aload_n 0 dX12_look_40 rfl rfl ?_
        refine Z_aload_n 0 dX12_look_41 rfl rfl ?_
        obtain ⟨g5, h⟩ := h
        refine Z_get (T := TX12) (N := 30) (ci := 12) (t := 2) 14 dX12_look_42 la_211 (z_leN la_211 (by decide)) rfl (by decide) inX12 (by decide) (flX12_45 rfl) rfl ?_
        refine Z_top (y := 221) ((Fix.get g5 la_211 14 10 (by decide +kernel)).trans (by clear h; omega)) ?_
        refine Z_invV (T := TX12) (N := 30) (ci := 12) (M' := mX12_manyParts) (ρ' := rX12_manyParts zN) (st := []) [(2, 221)] dX12_look_45 rfl rfl la_211 (z_leN la_211 (by decide)) (by decide) rfl rfl (kX12_manyParts.cl (Nat.le_of_ble_eq_true rfl) (Nat.le_refl _) (Nat.le_refl _) (Nat.le_of_ble_eq_true rfl) (Nat.le_of_ble_eq_true rfl) (Nat.le_of_ble_eq_true rfl)) (mlX12_282 rfl) iX12_manyParts sX12_manyParts h (z_ki (fun r6 σ7 h => ?_))
        exact Z_ireturn dX12_look_48 rfl rfl ⟨rfl, h⟩
      · replace h := h.2 c
        refine Z_iconst dX12_look_28 ?_
        refine Z_goto (tgt := 33) dX12_look_29 (by decide) ?_
        refine Z_aload_n 0 dX12_look_33 rfl rfl ?_
        obtain ⟨g8, h⟩ := h
        refine Z_get (T := TX12) (N := 30) (ci := 12) (t := 2) 14 dX12_look_34 la_211 (z_leN la_211 (by decide)) rfl (by decide) inX12 (by decide) (flX12_45 rfl) rfl ?_
        refine Z_top (y := 221) ((Fix.get g8 la_211 14 10 (by decide +kernel)).trans (by clear h; omega)) ?_
        refine Z_invV (T := TX12) (N := 30) (ci := 12) (M' := mX12_bare) (ρ' := rX12_bare zN) (st := []) [(0, 0), (2, 221)] dX12_look_37 rfl rfl la_211 (z_leN la_211 (by decide)) (by decide) rfl rfl (kX12_bare.cl (Nat.le_of_ble_eq_true rfl) (Nat.le_refl _) (Nat.le_refl _) (Nat.le_of_ble_eq_true rfl) (Nat.le_of_ble_eq_true rfl) (Nat.le_of_ble_eq_true rfl)) (mlX12_102 rfl) iX12_bare sX12_bare h (z_kv (fun σ10 h => ?_))
        refine Z_aload_n 0 dX12_look_40 rfl rfl ?_
        refine Z_aload_n 0 dX12_look_41 rfl rfl ?_
        obtain ⟨g11, h⟩ := h
        refine Z_get (T := TX12) (N := 30) (ci := 12) (t := 2) 14 dX12_look_42 la_211 (z_leN la_211 (by decide)) rfl (by decide) inX12 (by decide) (flX12_45 rfl) rfl ?_
        refine Z_top (y := 221) ((Fix.get g11 la_211 14 10 (by decide +kernel)).trans (by clear h; omega)) ?_
        refine Z_invV (T := TX12) (N := 30) (ci := 12) (M' := mX12_manyParts) (ρ' := rX12_manyParts zN) (st := []) [(2, 221)] dX12_look_45 rfl rfl la_211 (z_leN la_211 (by decide)) (by decide) rfl rfl (kX12_manyParts.cl (Nat.le_of_ble_eq_true rfl) (Nat.le_refl _) (Nat.le_refl _) (Nat.le_of_ble_eq_true rfl) (Nat.le_of_ble_eq_true rfl) (Nat.le_of_ble_eq_true rfl)) (mlX12_282 rfl) iX12_manyParts sX12_manyParts h (z_ki (fun r12 σ13 h => ?_))
        exact Z_ireturn dX12_look_48 rfl rfl ⟨rfl, h⟩
    · replace h := h.2 c
      refine Z_iload_n 1 dX12_look_15 rfl rfl ?_
      refine Z_iconst dX12_look_16 ?_
      refine Z_icmp_eq (tgt := 22) dX12_look_17 (by decide) g1 ⟨by decide, by decide⟩ (fun c => ?_) (fun c => ?_)
      · replace h := h.1 c
        refine Z_aload_n 0 dX12_look_22 rfl rfl ?_
        refine Z_iload_n 1 dX12_look_23 rfl rfl ?_
        refine Z_iconst dX12_look_24 ?_
        refine Z_icmp_ne (tgt := 32) dX12_look_25 (by decide) g1 ⟨by decide, by decide⟩ (fun c => ?_) (fun c => ?_)
        · replace h := h.1 c
          refine Z_iconst dX12_look_32 ?_
          refine Z_aload_n 0 dX12_look_33 rfl rfl ?_
          obtain ⟨g14, h⟩ := h
          refine Z_get (T := TX12) (N := 30) (ci := 12) (t := 2) 14 dX12_look_34 la_211 (z_leN la_211 (by decide)) rfl (by decide) inX12 (by decide) (flX12_45 rfl) rfl ?_
          refine Z_top (y := 221) ((Fix.get g14 la_211 14 10 (by decide +kernel)).trans (by clear h; omega)) ?_
          refine Z_invV (T := TX12) (N := 30) (ci := 12) (M' := mX12_bare) (ρ' := rX12_bare zN) (st := []) [(0, 1), (2, 221)] dX12_look_37 rfl rfl la_211 (z_leN la_211 (by decide)) (by decide) rfl rfl (kX12_bare.cl (Nat.le_of_ble_eq_true rfl) (Nat.le_refl _) (Nat.le_refl _) (Nat.le_of_ble_eq_true rfl) (Nat.le_of_ble_eq_true rfl) (Nat.le_of_ble_eq_true rfl)) (mlX12_102 rfl) iX12_bare sX12_bare h (z_kv (fun σ16 h => ?_))
          refine Z_aload_n 0 dX12_look_40 rfl rfl ?_
          refine Z_aload_n 0 dX12_look_41 rfl rfl ?_
          obtain ⟨g17, h⟩ := h
          refine Z_get (T := TX12) (N := 30) (ci := 12) (t := 2) 14 dX12_look_42 la_211 (z_leN la_211 (by decide)) rfl (by decide) inX12 (by decide) (flX12_45 rfl) rfl ?_
          refine Z_top (y := 221) ((Fix.get g17 la_211 14 10 (by decide +kernel)).trans (by clear h; omega)) ?_
          refine Z_invV (T := TX12) (N := 30) (ci := 12) (M' := mX12_manyParts) (ρ' := rX12_manyParts zN) (st := []) [(2, 221)] dX12_look_45 rfl rfl la_211 (z_leN la_211 (by decide)) (by decide) rfl rfl (kX12_manyParts.cl (Nat.le_of_ble_eq_true rfl) (Nat.le_refl _) (Nat.le_refl _) (Nat.le_of_ble_eq_true rfl) (Nat.le_of_ble_eq_true rfl) (Nat.le_of_ble_eq_true rfl)) (mlX12_282 rfl) iX12_manyParts sX12_manyParts h (z_ki (fun r18 σ19 h => ?_))
          exact Z_ireturn dX12_look_48 rfl rfl ⟨rfl, h⟩
        · replace h := h.2 c
          refine Z_iconst dX12_look_28 ?_
          refine Z_goto (tgt := 33) dX12_look_29 (by decide) ?_
          refine Z_aload_n 0 dX12_look_33 rfl rfl ?_
          obtain ⟨g20, h⟩ := h
          refine Z_get (T := TX12) (N := 30) (ci := 12) (t := 2) 14 dX12_look_34 la_211 (z_leN la_211 (by decide)) rfl (by decide) inX12 (by decide) (flX12_45 rfl) rfl ?_
          refine Z_top (y := 221) ((Fix.get g20 la_211 14 10 (by decide +kernel)).trans (by clear h; omega)) ?_
          refine Z_invV (T := TX12) (N := 30) (ci := 12) (M' := mX12_bare) (ρ' := rX12_bare zN) (st := []) [(0, 0), (2, 221)] dX12_look_37 rfl rfl la_211 (z_leN la_211 (by decide)) (by decide) rfl rfl (kX12_bare.cl (Nat.le_of_ble_eq_true rfl) (Nat.le_refl _) (Nat.le_refl _) (Nat.le_of_ble_eq_true rfl) (Nat.le_of_ble_eq_true rfl) (Nat.le_of_ble_eq_true rfl)) (mlX12_102 rfl) iX12_bare sX12_bare h (z_kv (fun σ22 h => ?_))
          refine Z_aload_n 0 dX12_look_40 rfl rfl ?_
          refine Z_aload_n 0 dX12_look_41 rfl rfl ?_
          obtain ⟨g23, h⟩ := h
          refine Z_get (T := TX12) (N := 30) (ci := 12) (t := 2) 14 dX12_look_42 la_211 (z_leN la_211 (by decide)) rfl (by decide) inX12 (by decide) (flX12_45 rfl) rfl ?_
          refine Z_top (y := 221) ((Fix.get g23 la_211 14 10 (by decide +kernel)).trans (by clear h; omega)) ?_
          refine Z_invV (T := TX12) (N := 30) (ci := 12) (M' := mX12_manyParts) (ρ' := rX12_manyParts zN) (st := []) [(2, 221)] dX12_look_45 rfl rfl la_211 (z_leN la_211 (by decide)) (by decide) rfl rfl (kX12_manyParts.cl (Nat.le_of_ble_eq_true rfl) (Nat.le_refl _) (Nat.le_refl _) (Nat.le_of_ble_eq_true rfl) (Nat.le_of_ble_eq_true rfl) (Nat.le_of_ble_eq_true rfl)) (mlX12_282 rfl) iX12_manyParts sX12_manyParts h (z_ki (fun r24 σ25 h => ?_))
          exact Z_ireturn dX12_look_48 rfl rfl ⟨rfl, h⟩
      · replace h := h.2 c
        refine Z_iconst dX12_look_20 ?_
        exact Z_ireturn dX12_look_21 rfl rfl ⟨rfl, h⟩
  · replace h := h.2 c
    refine Z_aload_n 0 dX12_look_4 rfl rfl ?_
    refine Z_iconst dX12_look_5 ?_
    refine Z_invV (T := TX12) (N := 30) (ci := 12) (M' := mX12_sign) (ρ' := rX12_sign zN) (st := []) [(0, 0)] dX12_look_6 rfl rfl la_211 (z_leN la_211 (by decide)) (by decide) rfl rfl (kX12_sign.cl (Nat.le_of_ble_eq_true rfl) (Nat.le_refl _) (Nat.le_refl _) (Nat.le_of_ble_eq_true rfl) (Nat.le_of_ble_eq_true rfl) (Nat.le_of_ble_eq_true rfl)) (mlX12_269 rfl) iX12_sign sX12_sign h (z_ki (fun r26 σ27 h => ?_))
    exact Z_ireturn dX12_look_9 rfl rfl ⟨rfl, h⟩
theorem bk_X12_part {X : ZS} {σ : ZM} {T : Int → ZM → Prop} {x1 : Int} {x2 : Int} (h : (r32 x1) ∧ ((x1 = 0) → (Fix σ) ∧ ZC X (rX12_bare zN) mX12_bare [(2, 211), (0, 0), (2, 221)] zN σ (zQv (fun σ4 => (r32 x2) ∧ ((x2 < 0) → T 0 σ4) ∧ ((¬ (x2 < 0)) → ((x2 < 16) → (Fix σ4) ∧ (0 ≤ x2) ∧ (x2 < 16) ∧ T (σ4 221 x2) σ4) ∧ ((¬ (x2 < 16)) → T 0 σ4))))) ∧ ((¬ x1 = 0) → (Fix σ) ∧ ZC X (rX12_bare zN) mX12_bare [(2, 211), (0, 1), (2, 221)] zN σ (zQv (fun σ11 => (r32 x2) ∧ ((x2 < 0) → T 0 σ11) ∧ ((¬ (x2 < 0)) → ((x2 < 16) → (Fix σ11) ∧ (0 ≤ x2) ∧ (x2 < 16) ∧ T (σ11 221 x2) σ11) ∧ ((¬ (x2 < 16)) → T 0 σ11)))))) : ZC X (rX12_part zN) mX12_part [(2, 211), (0, x1), (0, x2)] zN σ (zQi T) := by
  show Z X _ _ 0 [(2, 211), (0, x1), (0, x2)] [] _ σ _
  refine Z_aload_n 0 dX12_part_0 rfl rfl ?_
  refine Z_iload_n 1 dX12_part_1 rfl rfl ?_
  obtain ⟨g1, h⟩ := h
  refine Z_if_eq (tgt := 9) dX12_part_2 (by decide) g1 (fun c => ?_) (fun c => ?_)
  · replace h := h.1 c
    refine Z_iconst dX12_part_9 ?_
    refine Z_aload_n 0 dX12_part_10 rfl rfl ?_
    obtain ⟨g2, h⟩ := h
    refine Z_get (T := TX12) (N := 30) (ci := 12) (t := 2) 14 dX12_part_11 la_211 (z_leN la_211 (by decide)) rfl (by decide) inX12 (by decide) (flX12_45 rfl) rfl ?_
    refine Z_top (y := 221) ((Fix.get g2 la_211 14 10 (by decide +kernel)).trans (by clear h; omega)) ?_
    refine Z_invV (T := TX12) (N := 30) (ci := 12) (M' := mX12_bare) (ρ' := rX12_bare zN) (st := []) [(0, 0), (2, 221)] dX12_part_14 rfl rfl la_211 (z_leN la_211 (by decide)) (by decide) rfl rfl (kX12_bare.cl (Nat.le_of_ble_eq_true rfl) (Nat.le_refl _) (Nat.le_refl _) (Nat.le_of_ble_eq_true rfl) (Nat.le_of_ble_eq_true rfl) (Nat.le_of_ble_eq_true rfl)) (mlX12_102 rfl) iX12_bare sX12_bare h (z_kv (fun σ4 h => ?_))
    refine Z_iload_n 2 dX12_part_17 rfl rfl ?_
    obtain ⟨g5, h⟩ := h
    refine Z_if_lt (tgt := 27) dX12_part_18 (by decide) g5 (fun c => ?_) (fun c => ?_)
    · replace h := h.1 c
      refine Z_iconst dX12_part_27 ?_
      refine Z_goto (tgt := 38) dX12_part_28 (by decide) ?_
      exact Z_ireturn dX12_part_38 rfl rfl ⟨rfl, h⟩
    · replace h := h.2 c
      refine Z_iload_n 2 dX12_part_21 rfl rfl ?_
      refine Z_bipush dX12_part_22 (by decide) ?_
      refine Z_icmp_lt (tgt := 31) dX12_part_24 (by decide) g5 ⟨by decide, by decide⟩ (fun c => ?_) (fun c => ?_)
      · replace h := h.1 c
        refine Z_aload_n 0 dX12_part_31 rfl rfl ?_
        obtain ⟨g6, h⟩ := h
        refine Z_get (T := TX12) (N := 30) (ci := 12) (t := 2) 14 dX12_part_32 la_211 (z_leN la_211 (by decide)) rfl (by decide) inX12 (by decide) (flX12_45 rfl) rfl ?_
        refine Z_top (y := 221) ((Fix.get g6 la_211 14 10 (by decide +kernel)).trans (by clear h; omega)) ?_
        refine Z_iload_n 2 dX12_part_35 rfl rfl ?_
        obtain ⟨g7, h⟩ := h
        obtain ⟨g8, h⟩ := h
        refine Z_lald dX12_part_36 la_221 (z_leN la_221 (by decide)) g7 g8 ?_
        refine Z_l2i dX12_part_37 ?_
        exact Z_ireturn dX12_part_38 rfl rfl ⟨rfl, h⟩
      · replace h := h.2 c
        refine Z_iconst dX12_part_27 ?_
        refine Z_goto (tgt := 38) dX12_part_28 (by decide) ?_
        exact Z_ireturn dX12_part_38 rfl rfl ⟨rfl, h⟩
  · replace h := h.2 c
    refine Z_iconst dX12_part_5 ?_
    refine Z_goto (tgt := 10) dX12_part_6 (by decide) ?_
    refine Z_aload_n 0 dX12_part_10 rfl rfl ?_
    obtain ⟨g9, h⟩ := h
    refine Z_get (T := TX12) (N := 30) (ci := 12) (t := 2) 14 dX12_part_11 la_211 (z_leN la_211 (by decide)) rfl (by decide) inX12 (by decide) (flX12_45 rfl) rfl ?_
    refine Z_top (y := 221) ((Fix.get g9 la_211 14 10 (by decide +kernel)).trans (by clear h; omega)) ?_
    refine Z_invV (T := TX12) (N := 30) (ci := 12) (M' := mX12_bare) (ρ' := rX12_bare zN) (st := []) [(0, 1), (2, 221)] dX12_part_14 rfl rfl la_211 (z_leN la_211 (by decide)) (by decide) rfl rfl (kX12_bare.cl (Nat.le_of_ble_eq_true rfl) (Nat.le_refl _) (Nat.le_refl _) (Nat.le_of_ble_eq_true rfl) (Nat.le_of_ble_eq_true rfl) (Nat.le_of_ble_eq_true rfl)) (mlX12_102 rfl) iX12_bare sX12_bare h (z_kv (fun σ11 h => ?_))
    refine Z_iload_n 2 dX12_part_17 rfl rfl ?_
    obtain ⟨g12, h⟩ := h
    refine Z_if_lt (tgt := 27) dX12_part_18 (by decide) g12 (fun c => ?_) (fun c => ?_)
    · replace h := h.1 c
      refine Z_iconst dX12_part_27 ?_
      refine Z_goto (tgt := 38) dX12_part_28 (by decide) ?_
      exact Z_ireturn dX12_part_38 rfl rfl ⟨rfl, h⟩
    · replace h := h.2 c
      refine Z_iload_n 2 dX12_part_21 rfl rfl ?_
      refine Z_bipush dX12_part_22 (by decide) ?_
      refine Z_icmp_lt (tgt := 31) dX12_part_24 (by decide) g12 ⟨by decide, by decide⟩ (fun c => ?_) (fun c => ?_)
      · replace h := h.1 c
        refine Z_aload_n 0 dX12_part_31 rfl rfl ?_
        obtain ⟨g13, h⟩ := h
        refine Z_get (T := TX12) (N := 30) (ci := 12) (t := 2) 14 dX12_part_32 la_211 (z_leN la_211 (by decide)) rfl (by decide) inX12 (by decide) (flX12_45 rfl) rfl ?_
        refine Z_top (y := 221) ((Fix.get g13 la_211 14 10 (by decide +kernel)).trans (by clear h; omega)) ?_
        refine Z_iload_n 2 dX12_part_35 rfl rfl ?_
        obtain ⟨g14, h⟩ := h
        obtain ⟨g15, h⟩ := h
        refine Z_lald dX12_part_36 la_221 (z_leN la_221 (by decide)) g14 g15 ?_
        refine Z_l2i dX12_part_37 ?_
        exact Z_ireturn dX12_part_38 rfl rfl ⟨rfl, h⟩
      · replace h := h.2 c
        refine Z_iconst dX12_part_27 ?_
        refine Z_goto (tgt := 38) dX12_part_28 (by decide) ?_
        exact Z_ireturn dX12_part_38 rfl rfl ⟨rfl, h⟩
theorem bk_X12_told_ {X : ZS} {σ : ZM} {T : Int → ZM → Prop} {x1 : Int} {x2 : Int} (h : ZC X (rX12_isSeen zN) mX12_isSeen [(2, 211), (0, x1)] zN σ (zQz (fun r1 σ2 => ((r1 = false) → T (-10000) σ2) ∧ ((r1 = true) → (r32 x2) ∧ ((x2 < 0) → T (-10000) σ2) ∧ ((¬ (x2 < 0)) → ((x2 ≤ 3) → ((¬ x2 = 0) → ((¬ x2 = 1) → ((¬ x2 = 2) → (Fix σ2) ∧ (0 ≤ x1) ∧ (x1 < 8) ∧ T (σ2 219 x1) σ2) ∧ ((x2 = 2) → (Fix σ2) ∧ (0 ≤ x1) ∧ (x1 < 8) ∧ T (σ2 218 x1) σ2)) ∧ ((x2 = 1) → (Fix σ2) ∧ (0 ≤ x1) ∧ (x1 < 8) ∧ T (σ2 217 x1) σ2)) ∧ ((x2 = 0) → (Fix σ2) ∧ (0 ≤ x1) ∧ (x1 < 8) ∧ T (σ2 216 x1) σ2)) ∧ ((¬ (x2 ≤ 3)) → T (-10000) σ2)))))) : ZC X (rX12_told_ zN) mX12_told_ [(2, 211), (0, x1), (0, x2)] zN σ (zQi T) := by
  show Z X _ _ 0 [(2, 211), (0, x1), (0, x2)] [] _ σ _
  refine Z_aload_n 0 dX12_told__0 rfl rfl ?_
  refine Z_iload_n 1 dX12_told__1 rfl rfl ?_
  refine Z_invV (T := TX12) (N := 30) (ci := 12) (M' := mX12_isSeen) (ρ' := rX12_isSeen zN) (st := []) [(0, x1)] dX12_told__2 rfl rfl la_211 (z_leN la_211 (by decide)) (by decide) rfl rfl (kX12_isSeen.cl (Nat.le_of_ble_eq_true rfl) (Nat.le_refl _) (Nat.le_refl _) (Nat.le_of_ble_eq_true rfl) (Nat.le_of_ble_eq_true rfl) (Nat.le_of_ble_eq_true rfl)) (mlX12_190 rfl) iX12_isSeen sX12_isSeen h (z_kz (fun r1 σ2 h => ?_))
  refine Z_zif_eq (tgt := 17) dX12_told__5 (by decide) (fun c => ?_) (fun c => ?_)
  · replace h := h.1 c
    refine Z_sipush dX12_told__17 (by decide) ?_
    exact Z_ireturn dX12_told__20 rfl rfl ⟨rfl, h⟩
  · replace h := h.2 c
    refine Z_iload_n 2 dX12_told__8 rfl rfl ?_
    obtain ⟨g3, h⟩ := h
    refine Z_if_lt (tgt := 17) dX12_told__9 (by decide) g3 (fun c => ?_) (fun c => ?_)
    · replace h := h.1 c
      refine Z_sipush dX12_told__17 (by decide) ?_
      exact Z_ireturn dX12_told__20 rfl rfl ⟨rfl, h⟩
    · replace h := h.2 c
      refine Z_iload_n 2 dX12_told__12 rfl rfl ?_
      refine Z_iconst dX12_told__13 ?_
      refine Z_icmp_le (tgt := 21) dX12_told__14 (by decide) g3 ⟨by decide, by decide⟩ (fun c => ?_) (fun c => ?_)
      · replace h := h.1 c
        refine Z_iload_n 2 dX12_told__21 rfl rfl ?_
        refine Z_if_ne (tgt := 34) dX12_told__22 (by decide) g3 (fun c => ?_) (fun c => ?_)
        · replace h := h.1 c
          refine Z_iload_n 2 dX12_told__34 rfl rfl ?_
          refine Z_iconst dX12_told__35 ?_
          refine Z_icmp_ne (tgt := 48) dX12_told__36 (by decide) g3 ⟨by decide, by decide⟩ (fun c => ?_) (fun c => ?_)
          · replace h := h.1 c
            refine Z_iload_n 2 dX12_told__48 rfl rfl ?_
            refine Z_iconst dX12_told__49 ?_
            refine Z_icmp_ne (tgt := 62) dX12_told__50 (by decide) g3 ⟨by decide, by decide⟩ (fun c => ?_) (fun c => ?_)
            · replace h := h.1 c
              refine Z_aload_n 0 dX12_told__62 rfl rfl ?_
              obtain ⟨g4, h⟩ := h
              refine Z_get (T := TX12) (N := 30) (ci := 12) (t := 2) 8 dX12_told__63 la_211 (z_leN la_211 (by decide)) rfl (by decide) inX12 (by decide) (flX12_32 rfl) rfl ?_
              refine Z_top (y := 219) ((Fix.get g4 la_211 8 8 (by decide +kernel)).trans (by clear h; omega)) ?_
              refine Z_iload_n 1 dX12_told__66 rfl rfl ?_
              obtain ⟨g5, h⟩ := h
              obtain ⟨g6, h⟩ := h
              refine Z_iald dX12_told__67 la_219 (z_leN la_219 (by decide)) g5 g6 ?_
              exact Z_ireturn dX12_told__68 rfl rfl ⟨rfl, h⟩
            · replace h := h.2 c
              refine Z_aload_n 0 dX12_told__53 rfl rfl ?_
              obtain ⟨g7, h⟩ := h
              refine Z_get (T := TX12) (N := 30) (ci := 12) (t := 2) 7 dX12_told__54 la_211 (z_leN la_211 (by decide)) rfl (by decide) inX12 (by decide) (flX12_29 rfl) rfl ?_
              refine Z_top (y := 218) ((Fix.get g7 la_211 7 7 (by decide +kernel)).trans (by clear h; omega)) ?_
              refine Z_iload_n 1 dX12_told__57 rfl rfl ?_
              obtain ⟨g8, h⟩ := h
              obtain ⟨g9, h⟩ := h
              refine Z_iald dX12_told__58 la_218 (z_leN la_218 (by decide)) g8 g9 ?_
              refine Z_goto (tgt := 68) dX12_told__59 (by decide) ?_
              exact Z_ireturn dX12_told__68 rfl rfl ⟨rfl, h⟩
          · replace h := h.2 c
            refine Z_aload_n 0 dX12_told__39 rfl rfl ?_
            obtain ⟨g10, h⟩ := h
            refine Z_get (T := TX12) (N := 30) (ci := 12) (t := 2) 6 dX12_told__40 la_211 (z_leN la_211 (by decide)) rfl (by decide) inX12 (by decide) (flX12_26 rfl) rfl ?_
            refine Z_top (y := 217) ((Fix.get g10 la_211 6 6 (by decide +kernel)).trans (by clear h; omega)) ?_
            refine Z_iload_n 1 dX12_told__43 rfl rfl ?_
            obtain ⟨g11, h⟩ := h
            obtain ⟨g12, h⟩ := h
            refine Z_iald dX12_told__44 la_217 (z_leN la_217 (by decide)) g11 g12 ?_
            refine Z_goto (tgt := 68) dX12_told__45 (by decide) ?_
            exact Z_ireturn dX12_told__68 rfl rfl ⟨rfl, h⟩
        · replace h := h.2 c
          refine Z_aload_n 0 dX12_told__25 rfl rfl ?_
          obtain ⟨g13, h⟩ := h
          refine Z_get (T := TX12) (N := 30) (ci := 12) (t := 2) 5 dX12_told__26 la_211 (z_leN la_211 (by decide)) rfl (by decide) inX12 (by decide) (flX12_23 rfl) rfl ?_
          refine Z_top (y := 216) ((Fix.get g13 la_211 5 5 (by decide +kernel)).trans (by clear h; omega)) ?_
          refine Z_iload_n 1 dX12_told__29 rfl rfl ?_
          obtain ⟨g14, h⟩ := h
          obtain ⟨g15, h⟩ := h
          refine Z_iald dX12_told__30 la_216 (z_leN la_216 (by decide)) g14 g15 ?_
          refine Z_goto (tgt := 68) dX12_told__31 (by decide) ?_
          exact Z_ireturn dX12_told__68 rfl rfl ⟨rfl, h⟩
      · replace h := h.2 c
        refine Z_sipush dX12_told__17 (by decide) ?_
        exact Z_ireturn dX12_told__20 rfl rfl ⟨rfl, h⟩
theorem bk_X12_count {X : ZS} {σ : ZM} {T : Int → ZM → Prop} {x1 : Int} (h : (r32 x1) ∧ ((x1 = 0) → T (σ 211 4) σ) ∧ ((x1 = 1) → T (σ 211 9) σ) ∧ ((x1 = 2) → T (σ 211 11) σ) ∧ ((x1 = 3) → T (σ 211 12) σ) ∧ ((x1 = 4) → Z X (rX12_count zN) mX12_count 64 [(2, 211), (9, 0), (0, 0), (0, 0)] [] zN σ (zQi T)) ∧ ((x1 = 5) → (r32 (σ 211 13)) ∧ (((σ 211 13) = 0) → T 0 σ) ∧ ((¬ (σ 211 13) = 0) → T 1 σ)) ∧ ((x1 < 0 ∨ 5 < x1) → T (-1) σ)) : ZC X (rX12_count zN) mX12_count [(2, 211), (0, x1)] zN σ (zQi T) := by
  show Z X _ _ 0 [(2, 211), (0, x1), (9, 0), (9, 0)] [] _ σ _
  refine Z_iload_n 1 dX12_count_0 rfl rfl ?_
  obtain ⟨g1, h⟩ := h
  by_cases c0 : x1 = 0
  · replace h := h.1 c0
    refine Z_tabIn (tgt := 40) dX12_count_1 g1 0 c0 (by decide) (by decide) rfl (by decide) ?_
    refine Z_aload_n 0 dX12_count_40 rfl rfl ?_
    refine Z_get (T := TX12) (N := 30) (ci := 12) (t := 0) 4 dX12_count_41 la_211 (z_leN la_211 (by decide)) rfl (by decide) inX12 (by decide) (flX12_167 rfl) rfl ?_
    exact Z_ireturn dX12_count_44 rfl rfl ⟨rfl, h⟩
  replace h := h.2
  by_cases c1 : x1 = 1
  · replace h := h.1 c1
    refine Z_tabIn (tgt := 45) dX12_count_1 g1 1 c1 (by decide) (by decide) rfl (by decide) ?_
    refine Z_aload_n 0 dX12_count_45 rfl rfl ?_
    refine Z_get (T := TX12) (N := 30) (ci := 12) (t := 0) 9 dX12_count_46 la_211 (z_leN la_211 (by decide)) rfl (by decide) inX12 (by decide) (flX12_193 rfl) rfl ?_
    exact Z_ireturn dX12_count_49 rfl rfl ⟨rfl, h⟩
  replace h := h.2
  by_cases c2 : x1 = 2
  · replace h := h.1 c2
    refine Z_tabIn (tgt := 50) dX12_count_1 g1 2 c2 (by decide) (by decide) rfl (by decide) ?_
    refine Z_aload_n 0 dX12_count_50 rfl rfl ?_
    refine Z_get (T := TX12) (N := 30) (ci := 12) (t := 0) 11 dX12_count_51 la_211 (z_leN la_211 (by decide)) rfl (by decide) inX12 (by decide) (flX12_38 rfl) rfl ?_
    exact Z_ireturn dX12_count_54 rfl rfl ⟨rfl, h⟩
  replace h := h.2
  by_cases c3 : x1 = 3
  · replace h := h.1 c3
    refine Z_tabIn (tgt := 55) dX12_count_1 g1 3 c3 (by decide) (by decide) rfl (by decide) ?_
    refine Z_aload_n 0 dX12_count_55 rfl rfl ?_
    refine Z_get (T := TX12) (N := 30) (ci := 12) (t := 0) 12 dX12_count_56 la_211 (z_leN la_211 (by decide)) rfl (by decide) inX12 (by decide) (flX12_42 rfl) rfl ?_
    exact Z_ireturn dX12_count_59 rfl rfl ⟨rfl, h⟩
  replace h := h.2
  by_cases c4 : x1 = 4
  · replace h := h.1 c4
    refine Z_tabIn (tgt := 60) dX12_count_1 g1 4 c4 (by decide) (by decide) rfl (by decide) ?_
    refine Z_iconst dX12_count_60 ?_
    refine Z_istore_n (L' := [(2, 211), (0, x1), (0, 0), (9, 0)]) 2 dX12_count_61 rfl (Nat.le_of_ble_eq_true rfl) rfl ?_
    refine Z_iconst dX12_count_62 ?_
    refine Z_istore_n (L' := [(2, 211), (0, x1), (0, 0), (0, 0)]) 3 dX12_count_63 rfl (Nat.le_of_ble_eq_true rfl) rfl ?_
    exact Z_few (z_few_k (z_few_d (z_few_k (z_few_k z_few_0)))) h
  replace h := h.2
  by_cases c5 : x1 = 5
  · replace h := h.1 c5
    refine Z_tabIn (tgt := 95) dX12_count_1 g1 5 c5 (by decide) (by decide) rfl (by decide) ?_
    refine Z_aload_n 0 dX12_count_95 rfl rfl ?_
    refine Z_get (T := TX12) (N := 30) (ci := 12) (t := 0) 13 dX12_count_96 la_211 (z_leN la_211 (by decide)) rfl (by decide) inX12 (by decide) (flX12_186 rfl) rfl ?_
    obtain ⟨g2, h⟩ := h
    refine Z_if_eq (tgt := 106) dX12_count_99 (by decide) g2 (fun c => ?_) (fun c => ?_)
    · replace h := h.1 c
      refine Z_iconst dX12_count_106 ?_
      exact Z_ireturn dX12_count_107 rfl rfl ⟨rfl, h⟩
    · replace h := h.2 c
      refine Z_iconst dX12_count_102 ?_
      refine Z_goto (tgt := 107) dX12_count_103 (by decide) ?_
      exact Z_ireturn dX12_count_107 rfl rfl ⟨rfl, h⟩
  replace h := h.2
  have cO := z_sw5 c0 c1 c2 c3 c4 c5
  replace h := h cO
  refine Z_tabOut (tgt := 108) dX12_count_1 g1 cO (by decide) ?_
  refine Z_iconst dX12_count_108 ?_
  exact Z_ireturn dX12_count_109 rfl rfl ⟨rfl, h⟩
theorem bk_X12_count_64 {X : ZS} {σ : ZM} {T : Int → ZM → Prop} {x2 : Int} {x3 : Int} (h : (r32 x3) ∧ ((8 ≤ x3) → T x2 σ) ∧ ((¬ (8 ≤ x3)) → (Fix σ) ∧ (0 ≤ x3) ∧ (x3 < 8) ∧ (r32 (σ 213 x3)) ∧ ((¬ (σ 213 x3) = 0) → Z X (rX12_count zN) mX12_count 64 [(2, 211), (9, 0), (0, (x2 + 1)), (0, (x3 + 1))] [] zN σ (zQi T)) ∧ (((σ 213 x3) = 0) → Z X (rX12_count zN) mX12_count 64 [(2, 211), (9, 0), (0, (x2 + 0)), (0, (x3 + 1))] [] zN σ (zQi T)))) : Z X (rX12_count zN) mX12_count 64 [(2, 211), (9, 0), (0, x2), (0, x3)] [] zN σ (zQi T) := by
  refine Z_iload_n 3 dX12_count_64 rfl rfl ?_
  refine Z_bipush dX12_count_65 (by decide) ?_
  obtain ⟨g1, h⟩ := h
  refine Z_icmp_ge (tgt := 93) dX12_count_67 (by decide) g1 ⟨by decide, by decide⟩ (fun c => ?_) (fun c => ?_)
  · replace h := h.1 c
    refine Z_iload_n 2 dX12_count_93 rfl rfl ?_
    exact Z_ireturn dX12_count_94 rfl rfl ⟨rfl, h⟩
  · replace h := h.2 c
    refine Z_iload_n 2 dX12_count_70 rfl rfl ?_
    refine Z_aload_n 0 dX12_count_71 rfl rfl ?_
    obtain ⟨g2, h⟩ := h
    refine Z_get (T := TX12) (N := 30) (ci := 12) (t := 2) 1 dX12_count_72 la_211 (z_leN la_211 (by decide)) rfl (by decide) inX12 (by decide) (flX12_13 rfl) rfl ?_
    refine Z_top (y := 213) ((Fix.get g2 la_211 1 2 (by decide +kernel)).trans (by clear h; omega)) ?_
    refine Z_iload_n 3 dX12_count_75 rfl rfl ?_
    obtain ⟨g3, h⟩ := h
    obtain ⟨g4, h⟩ := h
    refine Z_iald dX12_count_76 la_213 (z_leN la_213 (by decide)) g3 g4 ?_
    obtain ⟨g5, h⟩ := h
    refine Z_if_ne (tgt := 84) dX12_count_77 (by decide) g5 (fun c => ?_) (fun c => ?_)
    · replace h := h.1 c
      refine Z_iconst dX12_count_84 ?_
      refine Z_iadd dX12_count_85 ?_
      refine Z_istore_n (L' := [(2, 211), (9, 0), (0, (x2 + 1)), (0, x3)]) 2 dX12_count_86 rfl (Nat.le_of_ble_eq_true rfl) rfl ?_
      refine Z_iinc (L' := [(2, 211), (9, 0), (0, (x2 + 1)), (0, (x3 + 1))]) dX12_count_87 rfl (Nat.le_of_ble_eq_true rfl) rfl ?_
      refine Z_goto (tgt := 64) dX12_count_90 (by decide) ?_
      exact Z_few (z_few_k (z_few_k (z_few_k (z_few_k z_few_0)))) h
    · replace h := h.2 c
      refine Z_iconst dX12_count_80 ?_
      refine Z_goto (tgt := 85) dX12_count_81 (by decide) ?_
      refine Z_iadd dX12_count_85 ?_
      refine Z_istore_n (L' := [(2, 211), (9, 0), (0, (x2 + 0)), (0, x3)]) 2 dX12_count_86 rfl (Nat.le_of_ble_eq_true rfl) rfl ?_
      refine Z_iinc (L' := [(2, 211), (9, 0), (0, (x2 + 0)), (0, (x3 + 1))]) dX12_count_87 rfl (Nat.le_of_ble_eq_true rfl) rfl ?_
      refine Z_goto (tgt := 64) dX12_count_90 (by decide) ?_
      exact Z_few (z_few_k (z_few_k (z_few_k (z_few_k z_few_0)))) h
