theorem bk_X5_init {X : ZS} {n : Nat} {n1 : Nat} {σ : ZM} {T : ZM → Prop} {p0 : Int} (hp0 : z_l p0 = (5, 2)) (h : (z_l ((n + 1 : Nat) : Int) = (20, 486)) ∧ (n + 1 ≤ n1) ∧ (p0.toNat ≤ (n + 1)) ∧ ((n + 1) = n1) ∧ T (z_up (z_new σ ((n + 1 : Nat) : Int)) p0 0 ((n + 1 : Nat) : Int))) : ZC X (rX5_init n1) mX5_init [(2, p0)] n σ (zQv T) := by
  show Z X _ _ 0 [(2, p0)] [] _ σ _
  refine Z_aload_n 0 dX5_init_0 rfl rfl ?_
  refine Z_objInit dX5_init_1 ((z_l_pos (by rw [hp0]; decide)).1) mlX5_3 ob_i ob_c (Nat.le_of_ble_eq_true rfl) (Nat.le_of_ble_eq_true rfl) (Nat.le_of_ble_eq_true rfl) ?_
  refine Z_aload_n 0 dX5_init_4 rfl rfl ?_
  refine Z_sipush dX5_init_5 (by decide) ?_
  obtain ⟨g1, h⟩ := h
  obtain ⟨g2, h⟩ := h
  refine Z_newI dX5_init_8 ac_int g1 rfl g2 ?_
  obtain ⟨g3, h⟩ := h
  refine Z_put (T := TX5) (N := 2) (ci := 5) (t := 2) tyX5 0 dX5_init_10 hp0 g3 rfl (by decide) inX5 (by decide) (plX5_11 rfl rfl) rfl tyX5_ok nmX5 rfl (z_nf_a _ _) ?_
  obtain ⟨g4, h⟩ := h
  exact Z_return dX5_init_13 rfl g4 ⟨rfl, h⟩
theorem bk_X5_has {X : ZS} {σ : ZM} {T : Bool → ZM → Prop} {x1 : Int} (h : (r32 x1) ∧ ((x1 < 0) → T false σ) ∧ ((¬ (x1 < 0)) → (r32 (σ 6 1)) ∧ (((σ 6 1) ≤ x1) → T false σ) ∧ ((¬ ((σ 6 1) ≤ x1)) → T true σ))) : ZC X (rX5_has zN) mX5_has [(2, 6), (0, x1)] zN σ (zQz T) := by
  show Z X _ _ 0 [(2, 6), (0, x1)] [] _ σ _
  refine Z_iload_n 1 dX5_has_0 rfl rfl ?_
  obtain ⟨g1, h⟩ := h
  refine Z_if_lt (tgt := 16) dX5_has_1 (by decide) g1 (fun c => ?_) (fun c => ?_)
  · replace h := h.1 c
    refine Z_iconst dX5_has_16 ?_
    exact Z_zreturn dX5_has_17 rfl (Or.inl rfl) rfl ⟨rfl, false, rfl, h⟩
  · replace h := h.2 c
    refine Z_iload_n 1 dX5_has_4 rfl rfl ?_
    refine Z_aload_n 0 dX5_has_5 rfl rfl ?_
    refine Z_get (T := TX5) (N := 2) (ci := 5) (t := 0) 1 dX5_has_6 la_6 (z_leN la_6 (by decide)) rfl (by decide) inX5 (by decide) (flX5_15 rfl) rfl ?_
    obtain ⟨g2, h⟩ := h
    refine Z_icmp_ge (tgt := 16) dX5_has_9 (by decide) g1 g2 (fun c => ?_) (fun c => ?_)
    · replace h := h.1 c
      refine Z_iconst dX5_has_16 ?_
      exact Z_zreturn dX5_has_17 rfl (Or.inl rfl) rfl ⟨rfl, false, rfl, h⟩
    · replace h := h.2 c
      refine Z_iconst dX5_has_12 ?_
      refine Z_goto (tgt := 17) dX5_has_13 (by decide) ?_
      exact Z_zreturn dX5_has_17 rfl (Or.inr rfl) rfl ⟨rfl, true, rfl, h⟩
theorem bk_X5_isFull {X : ZS} {σ : ZM} {T : Bool → ZM → Prop}  (h : (r32 (σ 6 1)) ∧ (((σ 6 1) < 6) → T false σ) ∧ ((¬ ((σ 6 1) < 6)) → T true σ)) : ZC X (rX5_isFull zN) mX5_isFull [(2, 6)] zN σ (zQz T) := by
  show Z X _ _ 0 [(2, 6)] [] _ σ _
  refine Z_aload_n 0 dX5_isFull_0 rfl rfl ?_
  refine Z_get (T := TX5) (N := 2) (ci := 5) (t := 0) 1 dX5_isFull_1 la_6 (z_leN la_6 (by decide)) rfl (by decide) inX5 (by decide) (flX5_15 rfl) rfl ?_
  refine Z_bipush dX5_isFull_4 (by decide) ?_
  obtain ⟨g1, h⟩ := h
  refine Z_icmp_lt (tgt := 13) dX5_isFull_6 (by decide) g1 ⟨by decide, by decide⟩ (fun c => ?_) (fun c => ?_)
  · replace h := h.1 c
    refine Z_iconst dX5_isFull_13 ?_
    exact Z_zreturn dX5_isFull_14 rfl (Or.inl rfl) rfl ⟨rfl, false, rfl, h⟩
  · replace h := h.2 c
    refine Z_iconst dX5_isFull_9 ?_
    refine Z_goto (tgt := 14) dX5_isFull_10 (by decide) ?_
    exact Z_zreturn dX5_isFull_14 rfl (Or.inr rfl) rfl ⟨rfl, true, rfl, h⟩
theorem bk_X5_tell {X : ZS} {σ : ZM} {T : Int → ZM → Prop} {x1 : Int} {x2 : Int} (h : ZC X (rX5_has zN) mX5_has [(2, 6), (0, x1)] zN σ (zQz (fun r1 σ2 => ((r1 = false) → T 0 σ2) ∧ ((r1 = true) → (r32 x2) ∧ ((x2 ≤ 0) → T 0 σ2) ∧ ((¬ (x2 ≤ 0)) → ((80 < x2) → T 0 σ2) ∧ ((¬ (80 < x2)) → (Fix σ2) ∧ (0 ≤ ((x1 * 81) + x2)) ∧ (((x1 * 81) + x2) < 486) ∧ T (σ2 7 ((x1 * 81) + x2)) σ2)))))) : ZC X (rX5_tell zN) mX5_tell [(2, 6), (0, x1), (0, x2)] zN σ (zQi T) := by
  show Z X _ _ 0 [(2, 6), (0, x1), (0, x2)] [] _ σ _
  refine Z_aload_n 0 dX5_tell_0 rfl rfl ?_
  refine Z_iload_n 1 dX5_tell_1 rfl rfl ?_
  refine Z_invV (T := TX5) (N := 2) (ci := 5) (M' := mX5_has) (ρ' := rX5_has zN) (st := []) [(0, x1)] dX5_tell_2 rfl rfl la_6 (z_leN la_6 (by decide)) (by decide) rfl rfl (kX5_has.cl (Nat.le_of_ble_eq_true rfl) (Nat.le_refl _) (Nat.le_refl _) (Nat.le_of_ble_eq_true rfl) (Nat.le_of_ble_eq_true rfl) (Nat.le_of_ble_eq_true rfl)) (mlX5_19 rfl) iX5_has sX5_has h (z_kz (fun r1 σ2 h => ?_))
  refine Z_zif_eq (tgt := 32) dX5_tell_5 (by decide) (fun c => ?_) (fun c => ?_)
  · replace h := h.1 c
    refine Z_iconst dX5_tell_32 ?_
    exact Z_ireturn dX5_tell_33 rfl rfl ⟨rfl, h⟩
  · replace h := h.2 c
    refine Z_iload_n 2 dX5_tell_8 rfl rfl ?_
    obtain ⟨g3, h⟩ := h
    refine Z_if_le (tgt := 32) dX5_tell_9 (by decide) g3 (fun c => ?_) (fun c => ?_)
    · replace h := h.1 c
      refine Z_iconst dX5_tell_32 ?_
      exact Z_ireturn dX5_tell_33 rfl rfl ⟨rfl, h⟩
    · replace h := h.2 c
      refine Z_iload_n 2 dX5_tell_12 rfl rfl ?_
      refine Z_bipush dX5_tell_13 (by decide) ?_
      refine Z_icmp_gt (tgt := 32) dX5_tell_15 (by decide) g3 ⟨by decide, by decide⟩ (fun c => ?_) (fun c => ?_)
      · replace h := h.1 c
        refine Z_iconst dX5_tell_32 ?_
        exact Z_ireturn dX5_tell_33 rfl rfl ⟨rfl, h⟩
      · replace h := h.2 c
        refine Z_aload_n 0 dX5_tell_18 rfl rfl ?_
        obtain ⟨g4, h⟩ := h
        refine Z_get (T := TX5) (N := 2) (ci := 5) (t := 2) 0 dX5_tell_19 la_6 (z_leN la_6 (by decide)) rfl (by decide) inX5 (by decide) (flX5_11 rfl) rfl ?_
        refine Z_top (y := 7) ((Fix.get g4 la_6 0 1 (by decide +kernel)).trans (by clear h; omega)) ?_
        refine Z_iload_n 1 dX5_tell_22 rfl rfl ?_
        refine Z_bipush dX5_tell_23 (by decide) ?_
        refine Z_imul dX5_tell_25 ?_
        refine Z_iload_n 2 dX5_tell_26 rfl rfl ?_
        refine Z_iadd dX5_tell_27 ?_
        obtain ⟨g5, h⟩ := h
        obtain ⟨g6, h⟩ := h
        refine Z_iald dX5_tell_28 la_7 (z_leN la_7 (by decide)) g5 g6 ?_
        refine Z_goto (tgt := 33) dX5_tell_29 (by decide) ?_
        exact Z_ireturn dX5_tell_33 rfl rfl ⟨rfl, h⟩
theorem bk_X5_draft {X : ZS} {σ : ZM} {T : ZM → Prop} {x1 : Int} {x2 : Int} (h : ZC X (rX5_isFull zN) mX5_isFull [(2, 6)] zN σ (zQz (fun r1 σ2 => ((r1 = true) → T σ2) ∧ ((r1 = false) → (r32 x1) ∧ ((x1 ≤ 0) → T σ2) ∧ ((¬ (x1 ≤ 0)) → ((80 < x1) → T σ2) ∧ ((¬ (80 < x1)) → (Fix σ2) ∧ (0 ≤ (((σ2 6 1) * 81) + x1)) ∧ ((((σ2 6 1) * 81) + x1) < 486) ∧ T (z_up σ2 7 (((σ2 6 1) * 81) + x1) x2))))))) : ZC X (rX5_draft zN) mX5_draft [(2, 6), (0, x1), (0, x2)] zN σ (zQv T) := by
  show Z X _ _ 0 [(2, 6), (0, x1), (0, x2)] [] _ σ _
  refine Z_aload_n 0 dX5_draft_0 rfl rfl ?_
  refine Z_invV (T := TX5) (N := 2) (ci := 5) (M' := mX5_isFull) (ρ' := rX5_isFull zN) (st := []) [] dX5_draft_1 rfl rfl la_6 (z_leN la_6 (by decide)) (by decide) rfl rfl (kX5_isFull.cl (Nat.le_of_ble_eq_true rfl) (Nat.le_refl _) (Nat.le_refl _) (Nat.le_of_ble_eq_true rfl) (Nat.le_of_ble_eq_true rfl) (Nat.le_of_ble_eq_true rfl)) (mlX5_23 rfl) iX5_isFull sX5_isFull h (z_kz (fun r1 σ2 h => ?_))
  refine Z_zif_ne (tgt := 32) dX5_draft_4 (by decide) (fun c => ?_) (fun c => ?_)
  · replace h := h.1 c
    exact Z_return dX5_draft_32 rfl rfl ⟨rfl, h⟩
  · replace h := h.2 c
    refine Z_iload_n 1 dX5_draft_7 rfl rfl ?_
    obtain ⟨g3, h⟩ := h
    refine Z_if_le (tgt := 32) dX5_draft_8 (by decide) g3 (fun c => ?_) (fun c => ?_)
    · replace h := h.1 c
      exact Z_return dX5_draft_32 rfl rfl ⟨rfl, h⟩
    · replace h := h.2 c
      refine Z_iload_n 1 dX5_draft_11 rfl rfl ?_
      refine Z_bipush dX5_draft_12 (by decide) ?_
      refine Z_icmp_gt (tgt := 32) dX5_draft_14 (by decide) g3 ⟨by decide, by decide⟩ (fun c => ?_) (fun c => ?_)
      · replace h := h.1 c
        exact Z_return dX5_draft_32 rfl rfl ⟨rfl, h⟩
      · replace h := h.2 c
        refine Z_aload_n 0 dX5_draft_17 rfl rfl ?_
        obtain ⟨g4, h⟩ := h
        refine Z_get (T := TX5) (N := 2) (ci := 5) (t := 2) 0 dX5_draft_18 la_6 (z_leN la_6 (by decide)) rfl (by decide) inX5 (by decide) (flX5_11 rfl) rfl ?_
        refine Z_top (y := 7) ((Fix.get g4 la_6 0 1 (by decide +kernel)).trans (by clear h; omega)) ?_
        refine Z_aload_n 0 dX5_draft_21 rfl rfl ?_
        refine Z_get (T := TX5) (N := 2) (ci := 5) (t := 0) 1 dX5_draft_22 la_6 (z_leN la_6 (by decide)) rfl (by decide) inX5 (by decide) (flX5_15 rfl) rfl ?_
        refine Z_bipush dX5_draft_25 (by decide) ?_
        refine Z_imul dX5_draft_27 ?_
        refine Z_iload_n 1 dX5_draft_28 rfl rfl ?_
        refine Z_iadd dX5_draft_29 ?_
        refine Z_iload_n 2 dX5_draft_30 rfl rfl ?_
        obtain ⟨g5, h⟩ := h
        obtain ⟨g6, h⟩ := h
        refine Z_iast dX5_draft_31 la_7 (z_leN la_7 (by decide)) g5 g6 ?_
        exact Z_return dX5_draft_32 rfl rfl ⟨rfl, h⟩
theorem bk_X5_draftSlope {X : ZS} {σ : ZM} {T : ZM → Prop} {x1 : Int} {x2 : Int} (h : Z X (rX5_draftSlope zN) mX5_draftSlope 2 [(2, 6), (0, x1), (0, x2), (0, 1)] [] zN σ (zQv T)) : ZC X (rX5_draftSlope zN) mX5_draftSlope [(2, 6), (0, x1), (0, x2)] zN σ (zQv T) := by
  show Z X _ _ 0 [(2, 6), (0, x1), (0, x2), (9, 0)] [] _ σ _
  refine Z_iconst dX5_draftSlope_0 ?_
  refine Z_istore_n (L' := [(2, 6), (0, x1), (0, x2), (0, 1)]) 3 dX5_draftSlope_1 rfl (Nat.le_of_ble_eq_true rfl) rfl ?_
  exact Z_few (z_few_k (z_few_k (z_few_k (z_few_k z_few_0)))) h
theorem bk_X5_draftSlope_2 {X : ZS} {σ : ZM} {T : ZM → Prop} {x1 : Int} {x2 : Int} {x3 : Int} (h : (r32 x3) ∧ ((80 < x3) → T σ) ∧ ((¬ (80 < x3)) → (r32 (x1 * x3)) ∧ (r32 x2) ∧ ZC X (rX5_draft zN) mX5_draft [(2, 6), (0, x3), (0, (min (x1 * x3) x2))] zN σ (zQv (fun σ5 => Z X (rX5_draftSlope zN) mX5_draftSlope 2 [(2, 6), (0, x1), (0, x2), (0, (x3 + 1))] [] zN σ5 (zQv T))))) : Z X (rX5_draftSlope zN) mX5_draftSlope 2 [(2, 6), (0, x1), (0, x2), (0, x3)] [] zN σ (zQv T) := by
  refine Z_iload_n 3 dX5_draftSlope_2 rfl rfl ?_
  refine Z_bipush dX5_draftSlope_3 (by decide) ?_
  obtain ⟨g1, h⟩ := h
  refine Z_icmp_gt (tgt := 26) dX5_draftSlope_5 (by decide) g1 ⟨by decide, by decide⟩ (fun c => ?_) (fun c => ?_)
  · replace h := h.1 c
    exact Z_return dX5_draftSlope_26 rfl rfl ⟨rfl, h⟩
  · replace h := h.2 c
    refine Z_aload_n 0 dX5_draftSlope_8 rfl rfl ?_
    refine Z_iload_n 3 dX5_draftSlope_9 rfl rfl ?_
    refine Z_iload_n 1 dX5_draftSlope_10 rfl rfl ?_
    refine Z_iload_n 3 dX5_draftSlope_11 rfl rfl ?_
    refine Z_imul dX5_draftSlope_12 ?_
    refine Z_iload_n 2 dX5_draftSlope_13 rfl rfl ?_
    obtain ⟨g2, h⟩ := h
    obtain ⟨g3, h⟩ := h
    refine Z_jmin dX5_draftSlope_14 (mlX5_27 rfl) g2 g3 (Nat.le_refl _) (Nat.le_of_ble_eq_true rfl) (Nat.le_of_ble_eq_true rfl) (Nat.le_of_ble_eq_true rfl) ?_
    refine Z_invV (T := TX5) (N := 2) (ci := 5) (M' := mX5_draft) (ρ' := rX5_draft zN) (st := []) [(0, x3), (0, (min (x1 * x3) x2))] dX5_draftSlope_17 rfl rfl la_6 (z_leN la_6 (by decide)) (by decide) rfl rfl (kX5_draft.cl (Nat.le_of_ble_eq_true rfl) (Nat.le_refl _) (Nat.le_refl _) (Nat.le_of_ble_eq_true rfl) (Nat.le_of_ble_eq_true rfl) (Nat.le_of_ble_eq_true rfl)) (mlX5_33 rfl) iX5_draft sX5_draft h (z_kv (fun σ5 h => ?_))
    refine Z_iinc (L' := [(2, 6), (0, x1), (0, x2), (0, (x3 + 1))]) dX5_draftSlope_20 rfl (Nat.le_of_ble_eq_true rfl) rfl ?_
    refine Z_goto (tgt := 2) dX5_draftSlope_23 (by decide) ?_
    exact Z_few (z_few_k (z_few_k (z_few_k (z_few_k z_few_0)))) h
theorem bk_X5_draftBoth {X : ZS} {σ : ZM} {T : Bool → ZM → Prop} {x1 : Int} {x2 : Int} (h : Z X (rX5_draftBoth zN) mX5_draftBoth 2 [(2, 6), (0, x1), (0, x2), (0, 1), (9, 0)] [] zN σ (zQz T)) : ZC X (rX5_draftBoth zN) mX5_draftBoth [(2, 6), (0, x1), (0, x2)] zN σ (zQz T) := by
  show Z X _ _ 0 [(2, 6), (0, x1), (0, x2), (9, 0), (9, 0)] [] _ σ _
  refine Z_iconst dX5_draftBoth_0 ?_
  refine Z_istore_n (L' := [(2, 6), (0, x1), (0, x2), (0, 1), (9, 0)]) 3 dX5_draftBoth_1 rfl (Nat.le_of_ble_eq_true rfl) rfl ?_
  exact Z_few (z_few_k (z_few_k (z_few_k (z_few_k (z_few_k z_few_0))))) h
theorem bk_X5_draftBoth_2 {X : ZS} {σ : ZM} {T : Bool → ZM → Prop} {x1 : Int} {x2 : Int} {x3 : Int} (h : (r32 x3) ∧ ((80 < x3) → T true σ) ∧ ((¬ (80 < x3)) → ZC X (rX5_tell zN) mX5_tell [(2, 6), (0, x1), (0, x3)] zN σ (zQi (fun r2 σ3 => ZC X (rX5_tell zN) mX5_tell [(2, 6), (0, x2), (0, x3)] zN σ3 (zQi (fun r4 σ5 => (r32 (r2 + r4)) ∧ (((r2 + r4) ≤ 16000) → ZC X (rX5_draft zN) mX5_draft [(2, 6), (0, x3), (0, (r2 + r4))] zN σ5 (zQv (fun σ8 => Z X (rX5_draftBoth zN) mX5_draftBoth 2 [(2, 6), (0, x1), (0, x2), (0, (x3 + 1)), (9, 0)] [] zN σ8 (zQz T)))) ∧ ((¬ ((r2 + r4) ≤ 16000)) → T false σ5))))))) : Z X (rX5_draftBoth zN) mX5_draftBoth 2 [(2, 6), (0, x1), (0, x2), (0, x3), (9, 0)] [] zN σ (zQz T) := by
  refine Z_iload_n 3 dX5_draftBoth_2 rfl rfl ?_
  refine Z_bipush dX5_draftBoth_3 (by decide) ?_
  obtain ⟨g1, h⟩ := h
  refine Z_icmp_gt (tgt := 46) dX5_draftBoth_5 (by decide) g1 ⟨by decide, by decide⟩ (fun c => ?_) (fun c => ?_)
  · replace h := h.1 c
    refine Z_iconst dX5_draftBoth_46 ?_
    exact Z_zreturn dX5_draftBoth_47 rfl (Or.inr rfl) rfl ⟨rfl, true, rfl, h⟩
  · replace h := h.2 c
    refine Z_aload_n 0 dX5_draftBoth_8 rfl rfl ?_
    refine Z_iload_n 1 dX5_draftBoth_9 rfl rfl ?_
    refine Z_iload_n 3 dX5_draftBoth_10 rfl rfl ?_
    refine Z_invV (T := TX5) (N := 2) (ci := 5) (M' := mX5_tell) (ρ' := rX5_tell zN) (st := []) [(0, x1), (0, x3)] dX5_draftBoth_11 rfl rfl la_6 (z_leN la_6 (by decide)) (by decide) rfl rfl (kX5_tell.cl (Nat.le_of_ble_eq_true rfl) (Nat.le_refl _) (Nat.le_refl _) (Nat.le_of_ble_eq_true rfl) (Nat.le_of_ble_eq_true rfl) (Nat.le_of_ble_eq_true rfl)) (mlX5_37 rfl) iX5_tell sX5_tell h (z_ki (fun r2 σ3 h => ?_))
    refine Z_aload_n 0 dX5_draftBoth_14 rfl rfl ?_
    refine Z_iload_n 2 dX5_draftBoth_15 rfl rfl ?_
    refine Z_iload_n 3 dX5_draftBoth_16 rfl rfl ?_
    refine Z_invV (T := TX5) (N := 2) (ci := 5) (M' := mX5_tell) (ρ' := rX5_tell zN) (st := [(0, r2)]) [(0, x2), (0, x3)] dX5_draftBoth_17 rfl rfl la_6 (z_leN la_6 (by decide)) (by decide) rfl rfl (kX5_tell.cl (Nat.le_of_ble_eq_true rfl) (Nat.le_refl _) (Nat.le_refl _) (Nat.le_of_ble_eq_true rfl) (Nat.le_of_ble_eq_true rfl) (Nat.le_of_ble_eq_true rfl)) (mlX5_37 rfl) iX5_tell sX5_tell h (z_ki (fun r4 σ5 h => ?_))
    refine Z_iadd dX5_draftBoth_20 ?_
    refine Z_istore (L' := [(2, 6), (0, x1), (0, x2), (0, x3), (0, (r2 + r4))]) dX5_draftBoth_21 (Nat.le_of_ble_eq_true rfl) rfl ?_
    refine Z_iload dX5_draftBoth_23 rfl ?_
    refine Z_sipush dX5_draftBoth_25 (by decide) ?_
    obtain ⟨g6, h⟩ := h
    refine Z_icmp_le (tgt := 33) dX5_draftBoth_28 (by decide) g6 ⟨by decide, by decide⟩ (fun c => ?_) (fun c => ?_)
    · replace h := h.1 c
      refine Z_aload_n 0 dX5_draftBoth_33 rfl rfl ?_
      refine Z_iload_n 3 dX5_draftBoth_34 rfl rfl ?_
      refine Z_iload dX5_draftBoth_35 rfl ?_
      refine Z_invV (T := TX5) (N := 2) (ci := 5) (M' := mX5_draft) (ρ' := rX5_draft zN) (st := []) [(0, x3), (0, (r2 + r4))] dX5_draftBoth_37 rfl rfl la_6 (z_leN la_6 (by decide)) (by decide) rfl rfl (kX5_draft.cl (Nat.le_of_ble_eq_true rfl) (Nat.le_refl _) (Nat.le_refl _) (Nat.le_of_ble_eq_true rfl) (Nat.le_of_ble_eq_true rfl) (Nat.le_of_ble_eq_true rfl)) (mlX5_33 rfl) iX5_draft sX5_draft h (z_kv (fun σ8 h => ?_))
      refine Z_iinc (L' := [(2, 6), (0, x1), (0, x2), (0, (x3 + 1)), (0, (r2 + r4))]) dX5_draftBoth_40 rfl (Nat.le_of_ble_eq_true rfl) rfl ?_
      refine Z_goto (tgt := 2) dX5_draftBoth_43 (by decide) ?_
      exact Z_few (z_few_k (z_few_k (z_few_k (z_few_k (z_few_d z_few_0))))) h
    · replace h := h.2 c
      refine Z_iconst dX5_draftBoth_31 ?_
      exact Z_zreturn dX5_draftBoth_32 rfl (Or.inl rfl) rfl ⟨rfl, false, rfl, h⟩
theorem bk_X5_keepDraft {X : ZS} {σ : ZM} {T : Int → ZM → Prop}  (h : ZC X (rX5_isFull zN) mX5_isFull [(2, 6)] zN σ (zQz (fun r1 σ2 => ((r1 = false) → T (((σ2 6 1) + 1) - 1) (z_up σ2 6 1 ((σ2 6 1) + 1))) ∧ ((r1 = true) → T (-8) σ2)))) : ZC X (rX5_keepDraft zN) mX5_keepDraft [(2, 6)] zN σ (zQi T) := by
  show Z X _ _ 0 [(2, 6)] [] _ σ _
  refine Z_aload_n 0 dX5_keepDraft_0 rfl rfl ?_
  refine Z_invV (T := TX5) (N := 2) (ci := 5) (M' := mX5_isFull) (ρ' := rX5_isFull zN) (st := []) [] dX5_keepDraft_1 rfl rfl la_6 (z_leN la_6 (by decide)) (by decide) rfl rfl (kX5_isFull.cl (Nat.le_of_ble_eq_true rfl) (Nat.le_refl _) (Nat.le_refl _) (Nat.le_of_ble_eq_true rfl) (Nat.le_of_ble_eq_true rfl) (Nat.le_of_ble_eq_true rfl)) (mlX5_23 rfl) iX5_isFull sX5_isFull h (z_kz (fun r1 σ2 h => ?_))
  refine Z_zif_eq (tgt := 10) dX5_keepDraft_4 (by decide) (fun c => ?_) (fun c => ?_)
  · replace h := h.1 c
    refine Z_aload_n 0 dX5_keepDraft_10 rfl rfl ?_
    refine Z_dup dX5_keepDraft_11 (by simp) ?_
    refine Z_get (T := TX5) (N := 2) (ci := 5) (t := 0) 1 dX5_keepDraft_12 la_6 (z_leN la_6 (by decide)) rfl (by decide) inX5 (by decide) (flX5_15 rfl) rfl ?_
    refine Z_iconst dX5_keepDraft_15 ?_
    refine Z_iadd dX5_keepDraft_16 ?_
    refine Z_put (T := TX5) (N := 2) (ci := 5) (t := 0) tyX5 1 dX5_keepDraft_17 la_6 (z_leN la_6 (by decide)) rfl (by decide) inX5 (by decide) (plX5_15 rfl) rfl tyX5_ok nmX5 rfl (z_nf_i _) ?_
    refine Z_aload_n 0 dX5_keepDraft_20 rfl rfl ?_
    refine Z_get (T := TX5) (N := 2) (ci := 5) (t := 0) 1 dX5_keepDraft_21 la_6 (z_leN la_6 (by decide)) rfl (by decide) inX5 (by decide) (flX5_15 rfl) rfl ?_
    refine Z_top (z_up_same _ _ _ _) ?_
    refine Z_iconst dX5_keepDraft_24 ?_
    refine Z_isub dX5_keepDraft_25 ?_
    exact Z_ireturn dX5_keepDraft_26 rfl rfl ⟨rfl, h⟩
  · replace h := h.2 c
    refine Z_bipush dX5_keepDraft_7 (by decide) ?_
    exact Z_ireturn dX5_keepDraft_9 rfl rfl ⟨rfl, h⟩
theorem bk_X6_init {X : ZS} {n : Nat} {n1 : Nat} {σ : ZM} {T : ZM → Prop} {p0 : Int} (hp0 : z_l p0 = (6, 3)) {x1 : Int} (h : (r32 x1) ∧ (n ≤ n1) ∧ (z_l ((n + 1 : Nat) : Int) = (20, (max 0 x1).toNat)) ∧ (n + 1 ≤ n1) ∧ ((max 0 x1) = (((max 0 x1).toNat : Nat) : Int)) ∧ (p0.toNat ≤ (n + 1)) ∧ (z_l (((n + 1) + 1 : Nat) : Int) = (20, (max 0 x1).toNat)) ∧ ((n + 1) + 1 ≤ n1) ∧ (p0.toNat ≤ ((n + 1) + 1)) ∧ (((n + 1) + 1) = n1) ∧ T (z_up (z_new (z_up (z_new σ ((n + 1 : Nat) : Int)) p0 0 ((n + 1 : Nat) : Int)) (((n + 1) + 1 : Nat) : Int)) p0 1 (((n + 1) + 1 : Nat) : Int))) : ZC X (rX6_init n1) mX6_init [(2, p0), (0, x1)] n σ (zQv T) := by
  show Z X _ _ 0 [(2, p0), (0, x1), (9, 0)] [] _ σ _
  refine Z_aload_n 0 dX6_init_0 rfl rfl ?_
  refine Z_objInit dX6_init_1 ((z_l_pos (by rw [hp0]; decide)).1) mlX6_1 ob_i ob_c (Nat.le_of_ble_eq_true rfl) (Nat.le_of_ble_eq_true rfl) (Nat.le_of_ble_eq_true rfl) ?_
  refine Z_iconst dX6_init_4 ?_
  refine Z_iload_n 1 dX6_init_5 rfl rfl ?_
  obtain ⟨g1, h⟩ := h
  obtain ⟨g2, h⟩ := h
  refine Z_jmax dX6_init_6 (mlX6_7 rfl) ⟨by decide, by decide⟩ g1 g2 (Nat.le_of_ble_eq_true rfl) (Nat.le_of_ble_eq_true rfl) (Nat.le_of_ble_eq_true rfl) ?_
  refine Z_istore_n (L' := [(2, p0), (0, x1), (0, (max 0 x1))]) 2 dX6_init_9 rfl (Nat.le_of_ble_eq_true rfl) rfl ?_
  refine Z_aload_n 0 dX6_init_10 rfl rfl ?_
  refine Z_iload_n 2 dX6_init_11 rfl rfl ?_
  obtain ⟨g3, h⟩ := h
  obtain ⟨g4, h⟩ := h
  obtain ⟨g5, h⟩ := h
  refine Z_newI dX6_init_12 ac_int g3 g5 g4 ?_
  obtain ⟨g6, h⟩ := h
  refine Z_put (T := TX6) (N := 3) (ci := 6) (t := 2) tyX6 0 dX6_init_14 hp0 g6 rfl (by decide) inX6 (by decide) (plX6_13 rfl rfl) rfl tyX6_ok nmX6 rfl (z_nf_a _ _) ?_
  refine Z_aload_n 0 dX6_init_17 rfl rfl ?_
  refine Z_iload_n 2 dX6_init_18 rfl rfl ?_
  obtain ⟨g7, h⟩ := h
  obtain ⟨g8, h⟩ := h
  refine Z_newI dX6_init_19 ac_int g7 g5 g8 ?_
  obtain ⟨g9, h⟩ := h
  refine Z_put (T := TX6) (N := 3) (ci := 6) (t := 2) tyX6 1 dX6_init_21 hp0 g9 rfl (by decide) inX6 (by decide) (plX6_19 rfl rfl) rfl tyX6_ok nmX6 rfl (z_nf_a _ _) ?_
  obtain ⟨g10, h⟩ := h
  exact Z_return dX6_init_24 rfl g10 ⟨rfl, h⟩
theorem bk_X6_clear {X : ZS} {σ : ZM} {T : ZM → Prop} {p0 : Int} (hp0 : z_l p0 = (6, 3)) (h : T (z_up σ p0 2 0)) : ZC X (rX6_clear zN) mX6_clear [(2, p0)] zN σ (zQv T) := by
  show Z X _ _ 0 [(2, p0)] [] _ σ _
  refine Z_aload_n 0 dX6_clear_0 rfl rfl ?_
  refine Z_iconst dX6_clear_1 ?_
  refine Z_put (T := TX6) (N := 3) (ci := 6) (t := 0) tyX6 2 dX6_clear_2 hp0 (z_leN hp0 (by decide)) rfl (by decide) inX6 (by decide) (plX6_22 rfl) rfl tyX6_ok nmX6 rfl (z_nf_i _) ?_
  exact Z_return dX6_clear_5 rfl rfl ⟨rfl, h⟩
theorem bk_X6_has {X : ZS} {σ : ZM} {T : Bool → ZM → Prop} {p0 : Int} (hp0 : z_l p0 = (6, 3)) {x1 : Int} (h : (r32 x1) ∧ ((x1 < 0) → T false σ) ∧ ((¬ (x1 < 0)) → (r32 (σ p0 2)) ∧ (((σ p0 2) ≤ x1) → T false σ) ∧ ((¬ ((σ p0 2) ≤ x1)) → T true σ))) : ZC X (rX6_has zN) mX6_has [(2, p0), (0, x1)] zN σ (zQz T) := by
  show Z X _ _ 0 [(2, p0), (0, x1)] [] _ σ _
  refine Z_iload_n 1 dX6_has_0 rfl rfl ?_
  obtain ⟨g1, h⟩ := h
  refine Z_if_lt (tgt := 16) dX6_has_1 (by decide) g1 (fun c => ?_) (fun c => ?_)
  · replace h := h.1 c
    refine Z_iconst dX6_has_16 ?_
    exact Z_zreturn dX6_has_17 rfl (Or.inl rfl) rfl ⟨rfl, false, rfl, h⟩
  · replace h := h.2 c
    refine Z_iload_n 1 dX6_has_4 rfl rfl ?_
    refine Z_aload_n 0 dX6_has_5 rfl rfl ?_
    refine Z_get (T := TX6) (N := 3) (ci := 6) (t := 0) 2 dX6_has_6 hp0 (z_leN hp0 (by decide)) rfl (by decide) inX6 (by decide) (flX6_22 rfl) rfl ?_
    obtain ⟨g2, h⟩ := h
    refine Z_icmp_ge (tgt := 16) dX6_has_9 (by decide) g1 g2 (fun c => ?_) (fun c => ?_)
    · replace h := h.1 c
      refine Z_iconst dX6_has_16 ?_
      exact Z_zreturn dX6_has_17 rfl (Or.inl rfl) rfl ⟨rfl, false, rfl, h⟩
    · replace h := h.2 c
      refine Z_iconst dX6_has_12 ?_
      refine Z_goto (tgt := 17) dX6_has_13 (by decide) ?_
      exact Z_zreturn dX6_has_17 rfl (Or.inr rfl) rfl ⟨rfl, true, rfl, h⟩
theorem bk_X6_holds {X : ZS} {σ : ZM} {T : Bool → ZM → Prop} {p0 : Int} (hp0 : z_l p0 = (6, 3)) {x1 : Int} {x2 : Int} (h : Z X (rX6_holds zN) mX6_holds 2 [(2, p0), (0, x1), (0, x2), (0, 0)] [] zN σ (zQz T)) : ZC X (rX6_holds zN) mX6_holds [(2, p0), (0, x1), (0, x2)] zN σ (zQz T) := by
  show Z X _ _ 0 [(2, p0), (0, x1), (0, x2), (9, 0)] [] _ σ _
  refine Z_iconst dX6_holds_0 ?_
  refine Z_istore_n (L' := [(2, p0), (0, x1), (0, x2), (0, 0)]) 3 dX6_holds_1 rfl (Nat.le_of_ble_eq_true rfl) rfl ?_
  exact Z_few (z_few_k (z_few_k (z_few_k (z_few_k z_few_0)))) h
theorem bk_X6_holds_2 {X : ZS} {σ : ZM} {T : Bool → ZM → Prop} {p0 : Int} (hp0 : z_l p0 = (6, 3)) {x1 : Int} {x2 : Int} {x3 : Int} (h : (r32 x3) ∧ (r32 (σ p0 2)) ∧ (((σ p0 2) ≤ x3) → T false σ) ∧ ((¬ ((σ p0 2) ≤ x3)) → (Fix σ) ∧ (0 ≤ x3) ∧ (x3 < (((z_l (p0 + 1)).2 : Nat) : Int)) ∧ (r32 (σ (p0 + 1) x3)) ∧ (r32 x1) ∧ ((¬ (σ (p0 + 1) x3) = x1) → Z X (rX6_holds zN) mX6_holds 2 [(2, p0), (0, x1), (0, x2), (0, (x3 + 1))] [] zN σ (zQz T)) ∧ (((σ (p0 + 1) x3) = x1) → (x3 < (((z_l (p0 + 2)).2 : Nat) : Int)) ∧ (r32 (σ (p0 + 2) x3)) ∧ (r32 x2) ∧ ((¬ (σ (p0 + 2) x3) = x2) → Z X (rX6_holds zN) mX6_holds 2 [(2, p0), (0, x1), (0, x2), (0, (x3 + 1))] [] zN σ (zQz T)) ∧ (((σ (p0 + 2) x3) = x2) → T true σ)))) : Z X (rX6_holds zN) mX6_holds 2 [(2, p0), (0, x1), (0, x2), (0, x3)] [] zN σ (zQz T) := by
  refine Z_iload_n 3 dX6_holds_2 rfl rfl ?_
  refine Z_aload_n 0 dX6_holds_3 rfl rfl ?_
  refine Z_get (T := TX6) (N := 3) (ci := 6) (t := 0) 2 dX6_holds_4 hp0 (z_leN hp0 (by decide)) rfl (by decide) inX6 (by decide) (flX6_22 rfl) rfl ?_
  obtain ⟨g1, h⟩ := h
  obtain ⟨g2, h⟩ := h
  refine Z_icmp_ge (tgt := 38) dX6_holds_7 (by decide) g1 g2 (fun c => ?_) (fun c => ?_)
  · replace h := h.1 c
    refine Z_iconst dX6_holds_38 ?_
    exact Z_zreturn dX6_holds_39 rfl (Or.inl rfl) rfl ⟨rfl, false, rfl, h⟩
  · replace h := h.2 c
    refine Z_aload_n 0 dX6_holds_10 rfl rfl ?_
    obtain ⟨g3, h⟩ := h
    refine Z_get (T := TX6) (N := 3) (ci := 6) (t := 2) 0 dX6_holds_11 hp0 (z_leN hp0 (by decide)) rfl (by decide) inX6 (by decide) (flX6_13 rfl) rfl ?_
    refine Z_top (y := (p0 + 1)) (Fix.get g3 hp0 0 1 (by decide +kernel)) ?_
    refine Z_iload_n 3 dX6_holds_14 rfl rfl ?_
    obtain ⟨g4, h⟩ := h
    obtain ⟨g5, h⟩ := h
    refine Z_iald dX6_holds_15 (zo_6_0 hp0) (z_leN (zo_6_0 hp0) (by decide)) g4 g5 ?_
    refine Z_iload_n 1 dX6_holds_16 rfl rfl ?_
    obtain ⟨g6, h⟩ := h
    obtain ⟨g7, h⟩ := h
    refine Z_icmp_ne (tgt := 32) dX6_holds_17 (by decide) g6 g7 (fun c => ?_) (fun c => ?_)
    · replace h := h.1 c
      refine Z_iinc (L' := [(2, p0), (0, x1), (0, x2), (0, (x3 + 1))]) dX6_holds_32 rfl (Nat.le_of_ble_eq_true rfl) rfl ?_
      refine Z_goto (tgt := 2) dX6_holds_35 (by decide) ?_
      exact Z_few (z_few_k (z_few_k (z_few_k (z_few_k z_few_0)))) h
    · replace h := h.2 c
      refine Z_aload_n 0 dX6_holds_20 rfl rfl ?_
      refine Z_get (T := TX6) (N := 3) (ci := 6) (t := 2) 1 dX6_holds_21 hp0 (z_leN hp0 (by decide)) rfl (by decide) inX6 (by decide) (flX6_19 rfl) rfl ?_
      refine Z_top (y := (p0 + 2)) (Fix.get g3 hp0 1 2 (by decide +kernel)) ?_
      refine Z_iload_n 3 dX6_holds_24 rfl rfl ?_
      obtain ⟨g8, h⟩ := h
      refine Z_iald dX6_holds_25 (zo_6_1 hp0) (z_leN (zo_6_1 hp0) (by decide)) g4 g8 ?_
      refine Z_iload_n 2 dX6_holds_26 rfl rfl ?_
      obtain ⟨g9, h⟩ := h
      obtain ⟨g10, h⟩ := h
      refine Z_icmp_ne (tgt := 32) dX6_holds_27 (by decide) g9 g10 (fun c => ?_) (fun c => ?_)
      · replace h := h.1 c
        refine Z_iinc (L' := [(2, p0), (0, x1), (0, x2), (0, (x3 + 1))]) dX6_holds_32 rfl (Nat.le_of_ble_eq_true rfl) rfl ?_
        refine Z_goto (tgt := 2) dX6_holds_35 (by decide) ?_
        exact Z_few (z_few_k (z_few_k (z_few_k (z_few_k z_few_0)))) h
      · replace h := h.2 c
        refine Z_iconst dX6_holds_30 ?_
        exact Z_zreturn dX6_holds_31 rfl (Or.inr rfl) rfl ⟨rfl, true, rfl, h⟩
theorem bk_X6_add {X : ZS} {σ : ZM} {T : ZM → Prop} {p0 : Int} (hp0 : z_l p0 = (6, 3)) {x1 : Int} {x2 : Int} (h : (Fix σ) ∧ (r32 (σ p0 2)) ∧ (r32 (((z_l (p0 + 1)).2 : Nat) : Int)) ∧ (((((z_l (p0 + 1)).2 : Nat) : Int) ≤ (σ p0 2)) → T σ) ∧ ((¬ ((((z_l (p0 + 1)).2 : Nat) : Int) ≤ (σ p0 2))) → (0 ≤ (σ p0 2)) ∧ ((σ p0 2) < (((z_l (p0 + 1)).2 : Nat) : Int)) ∧ ((σ p0 2) < (((z_l (p0 + 2)).2 : Nat) : Int)) ∧ T (z_up (z_up (z_up σ (p0 + 1) (σ p0 2) x1) (p0 + 2) (σ p0 2) x2) p0 2 ((σ p0 2) + 1)))) : ZC X (rX6_add zN) mX6_add [(2, p0), (0, x1), (0, x2)] zN σ (zQv T) := by
  show Z X _ _ 0 [(2, p0), (0, x1), (0, x2)] [] _ σ _
  refine Z_aload_n 0 dX6_add_0 rfl rfl ?_
  refine Z_get (T := TX6) (N := 3) (ci := 6) (t := 0) 2 dX6_add_1 hp0 (z_leN hp0 (by decide)) rfl (by decide) inX6 (by decide) (flX6_22 rfl) rfl ?_
  refine Z_aload_n 0 dX6_add_4 rfl rfl ?_
  obtain ⟨g1, h⟩ := h
  refine Z_get (T := TX6) (N := 3) (ci := 6) (t := 2) 0 dX6_add_5 hp0 (z_leN hp0 (by decide)) rfl (by decide) inX6 (by decide) (flX6_13 rfl) rfl ?_
  refine Z_top (y := (p0 + 1)) (Fix.get g1 hp0 0 1 (by decide +kernel)) ?_
  refine Z_alen dX6_add_8 (zo_6_0 hp0) (by decide) (z_leN (zo_6_0 hp0) (by decide)) ?_
  obtain ⟨g2, h⟩ := h
  obtain ⟨g3, h⟩ := h
  refine Z_icmp_ge (tgt := 42) dX6_add_9 (by decide) g2 g3 (fun c => ?_) (fun c => ?_)
  · replace h := h.1 c
    exact Z_return dX6_add_42 rfl rfl ⟨rfl, h⟩
  · replace h := h.2 c
    refine Z_aload_n 0 dX6_add_12 rfl rfl ?_
    refine Z_get (T := TX6) (N := 3) (ci := 6) (t := 2) 0 dX6_add_13 hp0 (z_leN hp0 (by decide)) rfl (by decide) inX6 (by decide) (flX6_13 rfl) rfl ?_
    refine Z_top (y := (p0 + 1)) (Fix.get g1 hp0 0 1 (by decide +kernel)) ?_
    refine Z_aload_n 0 dX6_add_16 rfl rfl ?_
    refine Z_get (T := TX6) (N := 3) (ci := 6) (t := 0) 2 dX6_add_17 hp0 (z_leN hp0 (by decide)) rfl (by decide) inX6 (by decide) (flX6_22 rfl) rfl ?_
    refine Z_iload_n 1 dX6_add_20 rfl rfl ?_
    obtain ⟨g4, h⟩ := h
    obtain ⟨g5, h⟩ := h
    refine Z_iast dX6_add_21 (zo_6_0 hp0) (z_leN (zo_6_0 hp0) (by decide)) g4 g5 ?_
    refine Z_aload_n 0 dX6_add_22 rfl rfl ?_
    refine Z_get (T := TX6) (N := 3) (ci := 6) (t := 2) 1 dX6_add_23 hp0 (z_leN hp0 (by decide)) rfl (by decide) inX6 (by decide) (flX6_19 rfl) rfl ?_
    refine Z_top (y := (p0 + 2)) (Fix.get (Fix.upA g1 (zo_6_0 hp0) (by decide)) hp0 1 2 (by decide +kernel)) ?_
    refine Z_aload_n 0 dX6_add_26 rfl rfl ?_
    refine Z_get (T := TX6) (N := 3) (ci := 6) (t := 0) 2 dX6_add_27 hp0 (z_leN hp0 (by decide)) rfl (by decide) inX6 (by decide) (flX6_22 rfl) rfl ?_
    refine Z_top (z_up_ne _ (Or.inl (z_nek hp0 (zo_6_0 hp0) (by decide)))) ?_
    refine Z_iload_n 2 dX6_add_30 rfl rfl ?_
    obtain ⟨g6, h⟩ := h
    refine Z_iast dX6_add_31 (zo_6_1 hp0) (z_leN (zo_6_1 hp0) (by decide)) g4 g6 ?_
    refine Z_aload_n 0 dX6_add_32 rfl rfl ?_
    refine Z_dup dX6_add_33 (by simp) ?_
    refine Z_get (T := TX6) (N := 3) (ci := 6) (t := 0) 2 dX6_add_34 hp0 (z_leN hp0 (by decide)) rfl (by decide) inX6 (by decide) (flX6_22 rfl) rfl ?_
    refine Z_top ((z_up_ne _ (Or.inl (z_nek hp0 (zo_6_1 hp0) (by decide)))).trans (z_up_ne _ (Or.inl (z_nek hp0 (zo_6_0 hp0) (by decide))))) ?_
    refine Z_iconst dX6_add_37 ?_
    refine Z_iadd dX6_add_38 ?_
    refine Z_put (T := TX6) (N := 3) (ci := 6) (t := 0) tyX6 2 dX6_add_39 hp0 (z_leN hp0 (by decide)) rfl (by decide) inX6 (by decide) (plX6_22 rfl) rfl tyX6_ok nmX6 rfl (z_nf_i _) ?_
    exact Z_return dX6_add_42 rfl rfl ⟨rfl, h⟩
theorem bk_X6_remove {X : ZS} {σ : ZM} {T : ZM → Prop} {p0 : Int} (hp0 : z_l p0 = (6, 3)) {x1 : Int} (h : ZC X (rX6_has zN) mX6_has [(2, p0), (0, x1)] zN σ (zQz (fun r1 σ2 => ((r1 = true) → Z X (rX6_remove zN) mX6_remove 13 [(2, p0), (9, 0), (0, (x1 + 1))] [] zN σ2 (zQv T)) ∧ ((r1 = false) → T σ2)))) : ZC X (rX6_remove zN) mX6_remove [(2, p0), (0, x1)] zN σ (zQv T) := by
  show Z X _ _ 0 [(2, p0), (0, x1), (9, 0)] [] _ σ _
  refine Z_aload_n 0 dX6_remove_0 rfl rfl ?_
  refine Z_iload_n 1 dX6_remove_1 rfl rfl ?_
  refine Z_invV (T := TX6) (N := 3) (ci := 6) (M' := mX6_has) (ρ' := rX6_has zN) (st := []) [(0, x1)] dX6_remove_2 rfl rfl hp0 (z_leN hp0 (by decide)) (by decide) rfl rfl (kX6_has.cl (Nat.le_of_ble_eq_true rfl) (Nat.le_refl _) (Nat.le_refl _) (Nat.le_of_ble_eq_true rfl) (Nat.le_of_ble_eq_true rfl) (Nat.le_of_ble_eq_true rfl)) (mlX6_26 rfl) iX6_has sX6_has h (z_kz (fun r1 σ2 h => ?_))
  refine Z_zif_ne (tgt := 9) dX6_remove_5 (by decide) (fun c => ?_) (fun c => ?_)
  · replace h := h.1 c
    refine Z_iload_n 1 dX6_remove_9 rfl rfl ?_
    refine Z_iconst dX6_remove_10 ?_
    refine Z_iadd dX6_remove_11 ?_
    refine Z_istore_n (L' := [(2, p0), (0, x1), (0, (x1 + 1))]) 2 dX6_remove_12 rfl (Nat.le_of_ble_eq_true rfl) rfl ?_
    exact Z_few (z_few_k (z_few_d (z_few_k z_few_0))) h
  · replace h := h.2 c
    exact Z_return dX6_remove_8 rfl rfl ⟨rfl, h⟩
theorem bk_X6_remove_13 {X : ZS} {σ : ZM} {T : ZM → Prop} {p0 : Int} (hp0 : z_l p0 = (6, 3)) {x2 : Int} (h : (r32 x2) ∧ (r32 (σ p0 2)) ∧ (((σ p0 2) ≤ x2) → T (z_up σ p0 2 ((σ p0 2) - 1))) ∧ ((¬ ((σ p0 2) ≤ x2)) → (Fix σ) ∧ (0 ≤ x2) ∧ (x2 < (((z_l (p0 + 1)).2 : Nat) : Int)) ∧ (0 ≤ (x2 - 1)) ∧ ((x2 - 1) < (((z_l (p0 + 1)).2 : Nat) : Int)) ∧ (x2 < (((z_l (p0 + 2)).2 : Nat) : Int)) ∧ ((x2 - 1) < (((z_l (p0 + 2)).2 : Nat) : Int)) ∧ Z X (rX6_remove zN) mX6_remove 13 [(2, p0), (9, 0), (0, (x2 + 1))] [] zN (z_up (z_up σ (p0 + 1) (x2 - 1) (σ (p0 + 1) x2)) (p0 + 2) (x2 - 1) (σ (p0 + 2) x2)) (zQv T))) : Z X (rX6_remove zN) mX6_remove 13 [(2, p0), (9, 0), (0, x2)] [] zN σ (zQv T) := by
  refine Z_iload_n 2 dX6_remove_13 rfl rfl ?_
  refine Z_aload_n 0 dX6_remove_14 rfl rfl ?_
  refine Z_get (T := TX6) (N := 3) (ci := 6) (t := 0) 2 dX6_remove_15 hp0 (z_leN hp0 (by decide)) rfl (by decide) inX6 (by decide) (flX6_22 rfl) rfl ?_
  obtain ⟨g1, h⟩ := h
  obtain ⟨g2, h⟩ := h
  refine Z_icmp_ge (tgt := 55) dX6_remove_18 (by decide) g1 g2 (fun c => ?_) (fun c => ?_)
  · replace h := h.1 c
    refine Z_aload_n 0 dX6_remove_55 rfl rfl ?_
    refine Z_dup dX6_remove_56 (by simp) ?_
    refine Z_get (T := TX6) (N := 3) (ci := 6) (t := 0) 2 dX6_remove_57 hp0 (z_leN hp0 (by decide)) rfl (by decide) inX6 (by decide) (flX6_22 rfl) rfl ?_
    refine Z_iconst dX6_remove_60 ?_
    refine Z_isub dX6_remove_61 ?_
    refine Z_put (T := TX6) (N := 3) (ci := 6) (t := 0) tyX6 2 dX6_remove_62 hp0 (z_leN hp0 (by decide)) rfl (by decide) inX6 (by decide) (plX6_22 rfl) rfl tyX6_ok nmX6 rfl (z_nf_i _) ?_
    exact Z_return dX6_remove_65 rfl rfl ⟨rfl, h⟩
  · replace h := h.2 c
    refine Z_aload_n 0 dX6_remove_21 rfl rfl ?_
    obtain ⟨g3, h⟩ := h
    refine Z_get (T := TX6) (N := 3) (ci := 6) (t := 2) 0 dX6_remove_22 hp0 (z_leN hp0 (by decide)) rfl (by decide) inX6 (by decide) (flX6_13 rfl) rfl ?_
    refine Z_top (y := (p0 + 1)) (Fix.get g3 hp0 0 1 (by decide +kernel)) ?_
    refine Z_iload_n 2 dX6_remove_25 rfl rfl ?_
    refine Z_iconst dX6_remove_26 ?_
    refine Z_isub dX6_remove_27 ?_
    refine Z_aload_n 0 dX6_remove_28 rfl rfl ?_
    refine Z_get (T := TX6) (N := 3) (ci := 6) (t := 2) 0 dX6_remove_29 hp0 (z_leN hp0 (by decide)) rfl (by decide) inX6 (by decide) (flX6_13 rfl) rfl ?_
    refine Z_top (y := (p0 + 1)) (Fix.get g3 hp0 0 1 (by decide +kernel)) ?_
    refine Z_iload_n 2 dX6_remove_32 rfl rfl ?_
    obtain ⟨g4, h⟩ := h
    obtain ⟨g5, h⟩ := h
    refine Z_iald dX6_remove_33 (zo_6_0 hp0) (z_leN (zo_6_0 hp0) (by decide)) g4 g5 ?_
    obtain ⟨g6, h⟩ := h
    obtain ⟨g7, h⟩ := h
    refine Z_iast dX6_remove_34 (zo_6_0 hp0) (z_leN (zo_6_0 hp0) (by decide)) g6 g7 ?_
    refine Z_aload_n 0 dX6_remove_35 rfl rfl ?_
    refine Z_get (T := TX6) (N := 3) (ci := 6) (t := 2) 1 dX6_remove_36 hp0 (z_leN hp0 (by decide)) rfl (by decide) inX6 (by decide) (flX6_19 rfl) rfl ?_
    refine Z_top (y := (p0 + 2)) (Fix.get (Fix.upA g3 (zo_6_0 hp0) (by decide)) hp0 1 2 (by decide +kernel)) ?_
    refine Z_iload_n 2 dX6_remove_39 rfl rfl ?_
    refine Z_iconst dX6_remove_40 ?_
    refine Z_isub dX6_remove_41 ?_
    refine Z_aload_n 0 dX6_remove_42 rfl rfl ?_
    refine Z_get (T := TX6) (N := 3) (ci := 6) (t := 2) 1 dX6_remove_43 hp0 (z_leN hp0 (by decide)) rfl (by decide) inX6 (by decide) (flX6_19 rfl) rfl ?_
    refine Z_top (y := (p0 + 2)) (Fix.get (Fix.upA g3 (zo_6_0 hp0) (by decide)) hp0 1 2 (by decide +kernel)) ?_
    refine Z_iload_n 2 dX6_remove_46 rfl rfl ?_
    obtain ⟨g8, h⟩ := h
    refine Z_iald dX6_remove_47 (zo_6_1 hp0) (z_leN (zo_6_1 hp0) (by decide)) g4 g8 ?_
    refine Z_top (z_up_ne _ (Or.inl (by clear h; omega))) ?_
    obtain ⟨g9, h⟩ := h
    refine Z_iast dX6_remove_48 (zo_6_1 hp0) (z_leN (zo_6_1 hp0) (by decide)) g6 g9 ?_
    refine Z_iinc (L' := [(2, p0), (9, 0), (0, (x2 + 1))]) dX6_remove_49 rfl (Nat.le_of_ble_eq_true rfl) rfl ?_
    refine Z_goto (tgt := 13) dX6_remove_52 (by decide) ?_
    exact Z_few (z_few_k (z_few_k (z_few_k z_few_0))) h
theorem bk_X6_way {X : ZS} {σ : ZM} {T : Int → ZM → Prop} {p0 : Int} (hp0 : z_l p0 = (6, 3)) {x1 : Int} {x2 : Int} (h : ZC X (rX6_has zN) mX6_has [(2, p0), (0, x2)] zN σ (zQz (fun r1 σ2 => ((r1 = false) → T 0 σ2) ∧ ((r1 = true) → (Fix σ2) ∧ (0 ≤ x2) ∧ (x2 < (((z_l (p0 + 1)).2 : Nat) : Int)) ∧ (x2 < (((z_l (p0 + 2)).2 : Nat) : Int)) ∧ ZC X (rX6_wayTo zN) mX6_wayTo [(2, p0), (0, x1), (0, (σ2 (p0 + 1) x2)), (0, (σ2 (p0 + 2) x2))] zN σ2 (zQi (fun r7 σ8 => T r7 σ8)))))) : ZC X (rX6_way zN) mX6_way [(2, p0), (0, x1), (0, x2)] zN σ (zQi T) := by
  show Z X _ _ 0 [(2, p0), (0, x1), (0, x2)] [] _ σ _
  refine Z_aload_n 0 dX6_way_0 rfl rfl ?_
  refine Z_iload_n 2 dX6_way_1 rfl rfl ?_
  refine Z_invV (T := TX6) (N := 3) (ci := 6) (M' := mX6_has) (ρ' := rX6_has zN) (st := []) [(0, x2)] dX6_way_2 rfl rfl hp0 (z_leN hp0 (by decide)) (by decide) rfl rfl (kX6_has.cl (Nat.le_of_ble_eq_true rfl) (Nat.le_refl _) (Nat.le_refl _) (Nat.le_of_ble_eq_true rfl) (Nat.le_of_ble_eq_true rfl) (Nat.le_of_ble_eq_true rfl)) (mlX6_26 rfl) iX6_has sX6_has h (z_kz (fun r1 σ2 h => ?_))
  refine Z_zif_eq (tgt := 28) dX6_way_5 (by decide) (fun c => ?_) (fun c => ?_)
  · replace h := h.1 c
    refine Z_iconst dX6_way_28 ?_
    exact Z_ireturn dX6_way_29 rfl rfl ⟨rfl, h⟩
  · replace h := h.2 c
    refine Z_aload_n 0 dX6_way_8 rfl rfl ?_
    refine Z_iload_n 1 dX6_way_9 rfl rfl ?_
    refine Z_aload_n 0 dX6_way_10 rfl rfl ?_
    obtain ⟨g3, h⟩ := h
    refine Z_get (T := TX6) (N := 3) (ci := 6) (t := 2) 0 dX6_way_11 hp0 (z_leN hp0 (by decide)) rfl (by decide) inX6 (by decide) (flX6_13 rfl) rfl ?_
    refine Z_top (y := (p0 + 1)) (Fix.get g3 hp0 0 1 (by decide +kernel)) ?_
    refine Z_iload_n 2 dX6_way_14 rfl rfl ?_
    obtain ⟨g4, h⟩ := h
    obtain ⟨g5, h⟩ := h
    refine Z_iald dX6_way_15 (zo_6_0 hp0) (z_leN (zo_6_0 hp0) (by decide)) g4 g5 ?_
    refine Z_aload_n 0 dX6_way_16 rfl rfl ?_
    refine Z_get (T := TX6) (N := 3) (ci := 6) (t := 2) 1 dX6_way_17 hp0 (z_leN hp0 (by decide)) rfl (by decide) inX6 (by decide) (flX6_19 rfl) rfl ?_
    refine Z_top (y := (p0 + 2)) (Fix.get g3 hp0 1 2 (by decide +kernel)) ?_
    refine Z_iload_n 2 dX6_way_20 rfl rfl ?_
    obtain ⟨g6, h⟩ := h
    refine Z_iald dX6_way_21 (zo_6_1 hp0) (z_leN (zo_6_1 hp0) (by decide)) g4 g6 ?_
    refine Z_invV (T := TX6) (N := 3) (ci := 6) (M' := mX6_wayTo) (ρ' := rX6_wayTo zN) (st := []) [(0, x1), (0, (σ2 (p0 + 1) x2)), (0, (σ2 (p0 + 2) x2))] dX6_way_22 rfl rfl hp0 (z_leN hp0 (by decide)) (by decide) rfl rfl (kX6_wayTo.cl (Nat.le_of_ble_eq_true rfl) (Nat.le_refl _) (Nat.le_refl _) (Nat.le_of_ble_eq_true rfl) (Nat.le_of_ble_eq_true rfl) (Nat.le_of_ble_eq_true rfl)) (mlX6_30 rfl) iX6_wayTo sX6_wayTo h (z_ki (fun r7 σ8 h => ?_))
    refine Z_goto (tgt := 29) dX6_way_25 (by decide) ?_
    exact Z_ireturn dX6_way_29 rfl rfl ⟨rfl, h⟩
theorem bk_X6_wayTo {X : ZS} {σ : ZM} {T : Int → ZM → Prop} {p0 : Int} (hp0 : z_l p0 = (6, 3)) {x1 : Int} {x2 : Int} {x3 : Int} (h : ZC X (rX6_has zN) mX6_has [(2, p0), (0, x1)] zN σ (zQz (fun r1 σ2 => ((r1 = false) → T 0 σ2) ∧ ((r1 = true) → (Fix σ2) ∧ (0 ≤ x1) ∧ (x1 < (((z_l (p0 + 1)).2 : Nat) : Int)) ∧ (r32 ((σ2 (p0 + 1) x1) - x2)) ∧ (((σ2 (p0 + 1) x1) - x2) ≠ -2147483648) ∧ (x1 < (((z_l (p0 + 2)).2 : Nat) : Int)) ∧ (r32 ((σ2 (p0 + 2) x1) - x3)) ∧ (((σ2 (p0 + 2) x1) - x3) ≠ -2147483648) ∧ T (((((σ2 (p0 + 1) x1) - x2).natAbs : Nat) : Int) + ((((σ2 (p0 + 2) x1) - x3).natAbs : Nat) : Int)) σ2)))) : ZC X (rX6_wayTo zN) mX6_wayTo [(2, p0), (0, x1), (0, x2), (0, x3)] zN σ (zQi T) := by
  show Z X _ _ 0 [(2, p0), (0, x1), (0, x2), (0, x3)] [] _ σ _
  refine Z_aload_n 0 dX6_wayTo_0 rfl rfl ?_
  refine Z_iload_n 1 dX6_wayTo_1 rfl rfl ?_
  refine Z_invV (T := TX6) (N := 3) (ci := 6) (M' := mX6_has) (ρ' := rX6_has zN) (st := []) [(0, x1)] dX6_wayTo_2 rfl rfl hp0 (z_leN hp0 (by decide)) (by decide) rfl rfl (kX6_has.cl (Nat.le_of_ble_eq_true rfl) (Nat.le_refl _) (Nat.le_refl _) (Nat.le_of_ble_eq_true rfl) (Nat.le_of_ble_eq_true rfl) (Nat.le_of_ble_eq_true rfl)) (mlX6_26 rfl) iX6_has sX6_has h (z_kz (fun r1 σ2 h => ?_))
  refine Z_zif_eq (tgt := 34) dX6_wayTo_5 (by decide) (fun c => ?_) (fun c => ?_)
  · replace h := h.1 c
    refine Z_iconst dX6_wayTo_34 ?_
    exact Z_ireturn dX6_wayTo_35 rfl rfl ⟨rfl, h⟩
  · replace h := h.2 c
    refine Z_aload_n 0 dX6_wayTo_8 rfl rfl ?_
    obtain ⟨g3, h⟩ := h
    refine Z_get (T := TX6) (N := 3) (ci := 6) (t := 2) 0 dX6_wayTo_9 hp0 (z_leN hp0 (by decide)) rfl (by decide) inX6 (by decide) (flX6_13 rfl) rfl ?_
    refine Z_top (y := (p0 + 1)) (Fix.get g3 hp0 0 1 (by decide +kernel)) ?_
    refine Z_iload_n 1 dX6_wayTo_12 rfl rfl ?_
    obtain ⟨g4, h⟩ := h
    obtain ⟨g5, h⟩ := h
    refine Z_iald dX6_wayTo_13 (zo_6_0 hp0) (z_leN (zo_6_0 hp0) (by decide)) g4 g5 ?_
    refine Z_iload_n 2 dX6_wayTo_14 rfl rfl ?_
    refine Z_isub dX6_wayTo_15 ?_
    obtain ⟨g6, h⟩ := h
    obtain ⟨g7, h⟩ := h
    refine Z_jabs dX6_wayTo_16 (mlX6_34 rfl) g6 g7 (Nat.le_refl _) (Nat.le_of_ble_eq_true rfl) (Nat.le_of_ble_eq_true rfl) (Nat.le_of_ble_eq_true rfl) ?_
    refine Z_aload_n 0 dX6_wayTo_19 rfl rfl ?_
    refine Z_get (T := TX6) (N := 3) (ci := 6) (t := 2) 1 dX6_wayTo_20 hp0 (z_leN hp0 (by decide)) rfl (by decide) inX6 (by decide) (flX6_19 rfl) rfl ?_
    refine Z_top (y := (p0 + 2)) (Fix.get g3 hp0 1 2 (by decide +kernel)) ?_
    refine Z_iload_n 1 dX6_wayTo_23 rfl rfl ?_
    obtain ⟨g8, h⟩ := h
    refine Z_iald dX6_wayTo_24 (zo_6_1 hp0) (z_leN (zo_6_1 hp0) (by decide)) g4 g8 ?_
    refine Z_iload_n 3 dX6_wayTo_25 rfl rfl ?_
    refine Z_isub dX6_wayTo_26 ?_
    obtain ⟨g9, h⟩ := h
    obtain ⟨g10, h⟩ := h
    refine Z_jabs dX6_wayTo_27 (mlX6_34 rfl) g9 g10 (Nat.le_refl _) (Nat.le_of_ble_eq_true rfl) (Nat.le_of_ble_eq_true rfl) (Nat.le_of_ble_eq_true rfl) ?_
    refine Z_iadd dX6_wayTo_30 ?_
    refine Z_goto (tgt := 35) dX6_wayTo_31 (by decide) ?_
    exact Z_ireturn dX6_wayTo_35 rfl rfl ⟨rfl, h⟩
theorem bk_X7_init {X : ZS} {n : Nat} {n1 : Nat} {σ : ZM} {T : ZM → Prop} {p0 : Int} (hp0 : z_l p0 = (7, 3)) (h : (z_l ((n + 1 : Nat) : Int) = (6, 3)) ∧ (n + 1 ≤ n1) ∧ (((n + 1 : Nat) : Int).toNat ≤ (n + 1)) ∧ (((n + 1) + 2) ≤ n1) ∧ ZC X (rX6_init ((n + 1) + 2)) mX6_init [(2, ((n + 1 : Nat) : Int)), (0, 8)] (n + 1) (z_new σ ((n + 1 : Nat) : Int)) (zQv (fun σ6 => (p0.toNat ≤ ((n + 1) + 2)) ∧ (z_l ((((n + 1) + 2) + 1 : Nat) : Int) = (20, 8)) ∧ (((n + 1) + 2) + 1 ≤ n1) ∧ (p0.toNat ≤ (((n + 1) + 2) + 1)) ∧ (z_l (((((n + 1) + 2) + 1) + 1 : Nat) : Int) = (20, 8)) ∧ ((((n + 1) + 2) + 1) + 1 ≤ n1) ∧ (p0.toNat ≤ ((((n + 1) + 2) + 1) + 1)) ∧ (((((n + 1) + 2) + 1) + 1) = n1) ∧ T (z_up (z_new (z_up (z_new (z_up σ6 p0 0 ((n + 1 : Nat) : Int)) ((((n + 1) + 2) + 1 : Nat) : Int)) p0 1 ((((n + 1) + 2) + 1 : Nat) : Int)) (((((n + 1) + 2) + 1) + 1 : Nat) : Int)) p0 2 (((((n + 1) + 2) + 1) + 1 : Nat) : Int))))) : ZC X (rX7_init n1) mX7_init [(2, p0)] n σ (zQv T) := by
  show Z X _ _ 0 [(2, p0)] [] _ σ _
  refine Z_aload_n 0 dX7_init_0 rfl rfl ?_
  refine Z_objInit dX7_init_1 ((z_l_pos (by rw [hp0]; decide)).1) mlX7_3 ob_i ob_c (Nat.le_of_ble_eq_true rfl) (Nat.le_of_ble_eq_true rfl) (Nat.le_of_ble_eq_true rfl) ?_
  refine Z_aload_n 0 dX7_init_4 rfl rfl ?_
  obtain ⟨g1, h⟩ := h
  obtain ⟨g2, h⟩ := h
  refine Z_newO (T := TX6) (N := 3) (ci := 6) tyX6 dX7_init_5 rfl (by decide) inX6 tyX6_ok df_6 clX7_9 in_X6 iz_X6 g1 g2 ?_
  refine Z_dup dX7_init_8 (by simp) ?_
  refine Z_bipush dX7_init_9 (by decide) ?_
  obtain ⟨g3, h⟩ := h
  obtain ⟨g7, h⟩ := h
  refine Z_invI (M' := mX6_init) (ρ' := rX6_init ((n + 1) + 2)) (st := [(2, ((n + 1 : Nat) : Int)), (2, p0)]) [(0, 8)] dX7_init_11 rfl ((z_l_pos (by rw [g1]; decide)).1) rfl rfl rfl (kX6_init.cl (Nat.le_of_ble_eq_true rfl) (Nat.le_add_right _ _) g7 (Nat.le_of_ble_eq_true rfl) (Nat.le_of_ble_eq_true rfl) (Nat.le_of_ble_eq_true rfl)) (mlX7_11 rfl) iX6_init h (z_kv (fun σ6 h => ?_))
  obtain ⟨g8, h⟩ := h
  refine Z_put (T := TX7) (N := 3) (ci := 7) (t := 2) tyX7 0 dX7_init_14 hp0 g8 rfl (by decide) inX7 (by decide) (plX7_14 rfl rfl) rfl tyX7_ok nmX7 rfl (z_nf_o _ _) ?_
  refine Z_aload_n 0 dX7_init_17 rfl rfl ?_
  refine Z_bipush dX7_init_18 (by decide) ?_
  obtain ⟨g9, h⟩ := h
  obtain ⟨g10, h⟩ := h
  refine Z_newI dX7_init_20 ac_int g9 rfl g10 ?_
  obtain ⟨g11, h⟩ := h
  refine Z_put (T := TX7) (N := 3) (ci := 7) (t := 2) tyX7 1 dX7_init_22 hp0 g11 rfl (by decide) inX7 (by decide) (plX7_20 rfl rfl) rfl tyX7_ok nmX7 rfl (z_nf_a _ _) ?_
  refine Z_aload_n 0 dX7_init_25 rfl rfl ?_
  refine Z_bipush dX7_init_26 (by decide) ?_
  obtain ⟨g12, h⟩ := h
  obtain ⟨g13, h⟩ := h
  refine Z_newI dX7_init_28 ac_int g12 rfl g13 ?_
  obtain ⟨g14, h⟩ := h
  refine Z_put (T := TX7) (N := 3) (ci := 7) (t := 2) tyX7 2 dX7_init_30 hp0 g14 rfl (by decide) inX7 (by decide) (plX7_24 rfl rfl) rfl tyX7_ok nmX7 rfl (z_nf_a _ _) ?_
  obtain ⟨g15, h⟩ := h
  exact Z_return dX7_init_33 rfl g15 ⟨rfl, h⟩
theorem bk_X7_add {X : ZS} {σ : ZM} {T : ZM → Prop} {p0 : Int} (hp0 : z_l p0 = (7, 3)) {x1 : Int} {x2 : Int} {x3 : Int} {x4 : Int} (h : (Fix σ) ∧ (r32 (σ (p0 + 1) 2)) ∧ ((8 ≤ (σ (p0 + 1) 2)) → T σ) ∧ ((¬ (8 ≤ (σ (p0 + 1) 2))) → ZC X (rX6_add zN) mX6_add [(2, (p0 + 1)), (0, x1), (0, x2)] zN σ (zQv (fun σ4 => (Fix σ4) ∧ (0 ≤ (σ (p0 + 1) 2)) ∧ ((σ (p0 + 1) 2) < 8) ∧ T (z_up (z_up σ4 (p0 + 4) (σ (p0 + 1) 2) x3) (p0 + 5) (σ (p0 + 1) 2) x4))))) : ZC X (rX7_add zN) mX7_add [(2, p0), (0, x1), (0, x2), (0, x3), (0, x4)] zN σ (zQv T) := by
  show Z X _ _ 0 [(2, p0), (0, x1), (0, x2), (0, x3), (0, x4), (9, 0)] [] _ σ _
  refine Z_aload_n 0 dX7_add_0 rfl rfl ?_
  obtain ⟨g1, h⟩ := h
  refine Z_get (T := TX7) (N := 3) (ci := 7) (t := 2) 0 dX7_add_1 hp0 (z_leN hp0 (by decide)) rfl (by decide) inX7 (by decide) (flX7_14 rfl) rfl ?_
  refine Z_top (y := (p0 + 1)) (Fix.get g1 hp0 0 1 (by decide +kernel)) ?_
  refine Z_get (T := TX6) (N := 3) (ci := 6) (t := 0) 2 dX7_add_4 (zo_7_0 hp0) (z_leN (zo_7_0 hp0) (by decide)) rfl (by decide) inX6 (by decide) (flX7_27 rfl) rfl ?_
  refine Z_istore (L' := [(2, p0), (0, x1), (0, x2), (0, x3), (0, x4), (0, (σ (p0 + 1) 2))]) dX7_add_7 (Nat.le_of_ble_eq_true rfl) rfl ?_
  refine Z_iload dX7_add_9 rfl ?_
  refine Z_bipush dX7_add_11 (by decide) ?_
  obtain ⟨g2, h⟩ := h
  refine Z_icmp_ge (tgt := 42) dX7_add_13 (by decide) g2 ⟨by decide, by decide⟩ (fun c => ?_) (fun c => ?_)
  · replace h := h.1 c
    exact Z_return dX7_add_42 rfl rfl ⟨rfl, h⟩
  · replace h := h.2 c
    refine Z_aload_n 0 dX7_add_16 rfl rfl ?_
    refine Z_get (T := TX7) (N := 3) (ci := 7) (t := 2) 0 dX7_add_17 hp0 (z_leN hp0 (by decide)) rfl (by decide) inX7 (by decide) (flX7_14 rfl) rfl ?_
    refine Z_top (y := (p0 + 1)) (Fix.get g1 hp0 0 1 (by decide +kernel)) ?_
    refine Z_iload_n 1 dX7_add_20 rfl rfl ?_
    refine Z_iload_n 2 dX7_add_21 rfl rfl ?_
    refine Z_invV (T := TX6) (N := 3) (ci := 6) (M' := mX6_add) (ρ' := rX6_add zN) (st := []) [(0, x1), (0, x2)] dX7_add_22 rfl rfl (zo_7_0 hp0) (z_leN (zo_7_0 hp0) (by decide)) (by decide) rfl rfl (kX6_add.cl (Nat.le_of_ble_eq_true rfl) (Nat.le_refl _) (Nat.le_refl _) (Nat.le_of_ble_eq_true rfl) (Nat.le_of_ble_eq_true rfl) (Nat.le_of_ble_eq_true rfl)) (mlX7_31 rfl) iX6_add sX6_add h (z_kv (fun σ4 h => ?_))
    refine Z_aload_n 0 dX7_add_25 rfl rfl ?_
    obtain ⟨g5, h⟩ := h
    refine Z_get (T := TX7) (N := 3) (ci := 7) (t := 2) 1 dX7_add_26 hp0 (z_leN hp0 (by decide)) rfl (by decide) inX7 (by decide) (flX7_20 rfl) rfl ?_
    refine Z_top (y := (p0 + 4)) (Fix.get g5 hp0 1 4 (by decide +kernel)) ?_
    refine Z_iload dX7_add_29 rfl ?_
    refine Z_iload_n 3 dX7_add_31 rfl rfl ?_
    obtain ⟨g6, h⟩ := h
    obtain ⟨g7, h⟩ := h
    refine Z_iast dX7_add_32 (zo_7_1 hp0) (z_leN (zo_7_1 hp0) (by decide)) g6 g7 ?_
    refine Z_aload_n 0 dX7_add_33 rfl rfl ?_
    refine Z_get (T := TX7) (N := 3) (ci := 7) (t := 2) 2 dX7_add_34 hp0 (z_leN hp0 (by decide)) rfl (by decide) inX7 (by decide) (flX7_24 rfl) rfl ?_
    refine Z_top (y := (p0 + 5)) (Fix.get (Fix.upA g5 (zo_7_1 hp0) (by decide)) hp0 2 5 (by decide +kernel)) ?_
    refine Z_iload dX7_add_37 rfl ?_
    refine Z_iload dX7_add_39 rfl ?_
    refine Z_iast dX7_add_41 (zo_7_2 hp0) (z_leN (zo_7_2 hp0) (by decide)) g6 g7 ?_
    exact Z_return dX7_add_42 rfl rfl ⟨rfl, h⟩
theorem bk_X7_remove {X : ZS} {σ : ZM} {T : ZM → Prop} {p0 : Int} (hp0 : z_l p0 = (7, 3)) {x1 : Int} (h : (Fix σ) ∧ ZC X (rX6_has zN) mX6_has [(2, (p0 + 1)), (0, x1)] zN σ (zQz (fun r2 σ3 => ((r2 = true) → Z X (rX7_remove zN) mX7_remove 16 [(2, p0), (0, x1), (0, (x1 + 1))] [] zN σ3 (zQv T)) ∧ ((r2 = false) → T σ3)))) : ZC X (rX7_remove zN) mX7_remove [(2, p0), (0, x1)] zN σ (zQv T) := by
  show Z X _ _ 0 [(2, p0), (0, x1), (9, 0)] [] _ σ _
  refine Z_aload_n 0 dX7_remove_0 rfl rfl ?_
  obtain ⟨g1, h⟩ := h
  refine Z_get (T := TX7) (N := 3) (ci := 7) (t := 2) 0 dX7_remove_1 hp0 (z_leN hp0 (by decide)) rfl (by decide) inX7 (by decide) (flX7_14 rfl) rfl ?_
  refine Z_top (y := (p0 + 1)) (Fix.get g1 hp0 0 1 (by decide +kernel)) ?_
  refine Z_iload_n 1 dX7_remove_4 rfl rfl ?_
  refine Z_invV (T := TX6) (N := 3) (ci := 6) (M' := mX6_has) (ρ' := rX6_has zN) (st := []) [(0, x1)] dX7_remove_5 rfl rfl (zo_7_0 hp0) (z_leN (zo_7_0 hp0) (by decide)) (by decide) rfl rfl (kX6_has.cl (Nat.le_of_ble_eq_true rfl) (Nat.le_refl _) (Nat.le_refl _) (Nat.le_of_ble_eq_true rfl) (Nat.le_of_ble_eq_true rfl) (Nat.le_of_ble_eq_true rfl)) (mlX7_35 rfl) iX6_has sX6_has h (z_kz (fun r2 σ3 h => ?_))
  refine Z_zif_ne (tgt := 12) dX7_remove_8 (by decide) (fun c => ?_) (fun c => ?_)
  · replace h := h.1 c
    refine Z_iload_n 1 dX7_remove_12 rfl rfl ?_
    refine Z_iconst dX7_remove_13 ?_
    refine Z_iadd dX7_remove_14 ?_
    refine Z_istore_n (L' := [(2, p0), (0, x1), (0, (x1 + 1))]) 2 dX7_remove_15 rfl (Nat.le_of_ble_eq_true rfl) rfl ?_
    exact Z_few (z_few_k (z_few_k (z_few_k z_few_0))) h
  · replace h := h.2 c
    exact Z_return dX7_remove_11 rfl rfl ⟨rfl, h⟩
theorem bk_X7_remove_16 {X : ZS} {σ : ZM} {T : ZM → Prop} {p0 : Int} (hp0 : z_l p0 = (7, 3)) {x1 : Int} {x2 : Int} (h : (Fix σ) ∧ (r32 x2) ∧ (r32 (σ (p0 + 1) 2)) ∧ (((σ (p0 + 1) 2) ≤ x2) → ZC X (rX6_remove zN) mX6_remove [(2, (p0 + 1)), (0, x1)] zN σ (zQv (fun σ5 => T σ5))) ∧ ((¬ ((σ (p0 + 1) 2) ≤ x2)) → (0 ≤ x2) ∧ (x2 < 8) ∧ (0 ≤ (x2 - 1)) ∧ ((x2 - 1) < 8) ∧ Z X (rX7_remove zN) mX7_remove 16 [(2, p0), (0, x1), (0, (x2 + 1))] [] zN (z_up (z_up σ (p0 + 4) (x2 - 1) (σ (p0 + 4) x2)) (p0 + 5) (x2 - 1) (σ (p0 + 5) x2)) (zQv T))) : Z X (rX7_remove zN) mX7_remove 16 [(2, p0), (0, x1), (0, x2)] [] zN σ (zQv T) := by
  refine Z_iload_n 2 dX7_remove_16 rfl rfl ?_
  refine Z_aload_n 0 dX7_remove_17 rfl rfl ?_
  obtain ⟨g1, h⟩ := h
  refine Z_get (T := TX7) (N := 3) (ci := 7) (t := 2) 0 dX7_remove_18 hp0 (z_leN hp0 (by decide)) rfl (by decide) inX7 (by decide) (flX7_14 rfl) rfl ?_
  refine Z_top (y := (p0 + 1)) (Fix.get g1 hp0 0 1 (by decide +kernel)) ?_
  refine Z_get (T := TX6) (N := 3) (ci := 6) (t := 0) 2 dX7_remove_21 (zo_7_0 hp0) (z_leN (zo_7_0 hp0) (by decide)) rfl (by decide) inX6 (by decide) (flX7_27 rfl) rfl ?_
  obtain ⟨g2, h⟩ := h
  obtain ⟨g3, h⟩ := h
  refine Z_icmp_ge (tgt := 61) dX7_remove_24 (by decide) g2 g3 (fun c => ?_) (fun c => ?_)
  · replace h := h.1 c
    refine Z_aload_n 0 dX7_remove_61 rfl rfl ?_
    refine Z_get (T := TX7) (N := 3) (ci := 7) (t := 2) 0 dX7_remove_62 hp0 (z_leN hp0 (by decide)) rfl (by decide) inX7 (by decide) (flX7_14 rfl) rfl ?_
    refine Z_top (y := (p0 + 1)) (Fix.get g1 hp0 0 1 (by decide +kernel)) ?_
    refine Z_iload_n 1 dX7_remove_65 rfl rfl ?_
    refine Z_invV (T := TX6) (N := 3) (ci := 6) (M' := mX6_remove) (ρ' := rX6_remove zN) (st := []) [(0, x1)] dX7_remove_66 rfl rfl (zo_7_0 hp0) (z_leN (zo_7_0 hp0) (by decide)) (by decide) rfl rfl (kX6_remove.cl (Nat.le_of_ble_eq_true rfl) (Nat.le_refl _) (Nat.le_refl _) (Nat.le_of_ble_eq_true rfl) (Nat.le_of_ble_eq_true rfl) (Nat.le_of_ble_eq_true rfl)) (mlX7_39 rfl) iX6_remove sX6_remove h (z_kv (fun σ5 h => ?_))
    exact Z_return dX7_remove_69 rfl rfl ⟨rfl, h⟩
  · replace h := h.2 c
    refine Z_aload_n 0 dX7_remove_27 rfl rfl ?_
    refine Z_get (T := TX7) (N := 3) (ci := 7) (t := 2) 1 dX7_remove_28 hp0 (z_leN hp0 (by decide)) rfl (by decide) inX7 (by decide) (flX7_20 rfl) rfl ?_
    refine Z_top (y := (p0 + 4)) (Fix.get g1 hp0 1 4 (by decide +kernel)) ?_
    refine Z_iload_n 2 dX7_remove_31 rfl rfl ?_
    refine Z_iconst dX7_remove_32 ?_
    refine Z_isub dX7_remove_33 ?_
    refine Z_aload_n 0 dX7_remove_34 rfl rfl ?_
    refine Z_get (T := TX7) (N := 3) (ci := 7) (t := 2) 1 dX7_remove_35 hp0 (z_leN hp0 (by decide)) rfl (by decide) inX7 (by decide) (flX7_20 rfl) rfl ?_
    refine Z_top (y := (p0 + 4)) (Fix.get g1 hp0 1 4 (by decide +kernel)) ?_
    refine Z_iload_n 2 dX7_remove_38 rfl rfl ?_
    obtain ⟨g6, h⟩ := h
    obtain ⟨g7, h⟩ := h
    refine Z_iald dX7_remove_39 (zo_7_1 hp0) (z_leN (zo_7_1 hp0) (by decide)) g6 g7 ?_
    obtain ⟨g8, h⟩ := h
    obtain ⟨g9, h⟩ := h
    refine Z_iast dX7_remove_40 (zo_7_1 hp0) (z_leN (zo_7_1 hp0) (by decide)) g8 g9 ?_
    refine Z_aload_n 0 dX7_remove_41 rfl rfl ?_
    refine Z_get (T := TX7) (N := 3) (ci := 7) (t := 2) 2 dX7_remove_42 hp0 (z_leN hp0 (by decide)) rfl (by decide) inX7 (by decide) (flX7_24 rfl) rfl ?_
    refine Z_top (y := (p0 + 5)) (Fix.get (Fix.upA g1 (zo_7_1 hp0) (by decide)) hp0 2 5 (by decide +kernel)) ?_
    refine Z_iload_n 2 dX7_remove_45 rfl rfl ?_
    refine Z_iconst dX7_remove_46 ?_
    refine Z_isub dX7_remove_47 ?_
    refine Z_aload_n 0 dX7_remove_48 rfl rfl ?_
    refine Z_get (T := TX7) (N := 3) (ci := 7) (t := 2) 2 dX7_remove_49 hp0 (z_leN hp0 (by decide)) rfl (by decide) inX7 (by decide) (flX7_24 rfl) rfl ?_
    refine Z_top (y := (p0 + 5)) (Fix.get (Fix.upA g1 (zo_7_1 hp0) (by decide)) hp0 2 5 (by decide +kernel)) ?_
    refine Z_iload_n 2 dX7_remove_52 rfl rfl ?_
    refine Z_iald dX7_remove_53 (zo_7_2 hp0) (z_leN (zo_7_2 hp0) (by decide)) g6 g7 ?_
    refine Z_top (z_up_ne _ (Or.inl (by clear h; omega))) ?_
    refine Z_iast dX7_remove_54 (zo_7_2 hp0) (z_leN (zo_7_2 hp0) (by decide)) g8 g9 ?_
    refine Z_iinc (L' := [(2, p0), (0, x1), (0, (x2 + 1))]) dX7_remove_55 rfl (Nat.le_of_ble_eq_true rfl) rfl ?_
    refine Z_goto (tgt := 16) dX7_remove_58 (by decide) ?_
    exact Z_few (z_few_k (z_few_k (z_few_k z_few_0))) h
theorem bk_X8_init {X : ZS} {n : Nat} {n1 : Nat} {σ : ZM} {T : ZM → Prop} {p0 : Int} (hp0 : z_l p0 = (8, 9)) (h : (z_l ((n + 1 : Nat) : Int) = (21, 480)) ∧ (n + 1 ≤ n1) ∧ (p0.toNat ≤ (n + 1)) ∧ (z_l (((n + 1) + 1 : Nat) : Int) = (20, 8)) ∧ ((n + 1) + 1 ≤ n1) ∧ (p0.toNat ≤ ((n + 1) + 1)) ∧ (z_l ((((n + 1) + 1) + 1 : Nat) : Int) = (20, 8)) ∧ (((n + 1) + 1) + 1 ≤ n1) ∧ (p0.toNat ≤ (((n + 1) + 1) + 1)) ∧ Z X (rX8_init n1) mX8_init 31 [(2, p0), (0, 0)] [] (((n + 1) + 1) + 1) (z_up (z_new (z_up (z_new (z_up (z_new σ ((n + 1 : Nat) : Int)) p0 0 ((n + 1 : Nat) : Int)) (((n + 1) + 1 : Nat) : Int)) p0 1 (((n + 1) + 1 : Nat) : Int)) ((((n + 1) + 1) + 1 : Nat) : Int)) p0 2 ((((n + 1) + 1) + 1 : Nat) : Int)) (zQv T)) : ZC X (rX8_init n1) mX8_init [(2, p0)] n σ (zQv T) := by
  show Z X _ _ 0 [(2, p0), (9, 0)] [] _ σ _
  refine Z_aload_n 0 dX8_init_0 rfl rfl ?_
  refine Z_objInit dX8_init_1 ((z_l_pos (by rw [hp0]; decide)).1) mlX8_3 ob_i ob_c (Nat.le_of_ble_eq_true rfl) (Nat.le_of_ble_eq_true rfl) (Nat.le_of_ble_eq_true rfl) ?_
  refine Z_aload_n 0 dX8_init_4 rfl rfl ?_
  refine Z_sipush dX8_init_5 (by decide) ?_
  obtain ⟨g1, h⟩ := h
  obtain ⟨g2, h⟩ := h
  refine Z_newJ dX8_init_8 ac_long g1 rfl g2 ?_
  obtain ⟨g3, h⟩ := h
  refine Z_put (T := TX8) (N := 9) (ci := 8) (t := 2) tyX8 0 dX8_init_10 hp0 g3 rfl (by decide) inX8 (by decide) (plX8_11 rfl rfl) rfl tyX8_ok nmX8 rfl (z_nf_a _ _) ?_
  refine Z_aload_n 0 dX8_init_13 rfl rfl ?_
  refine Z_bipush dX8_init_14 (by decide) ?_
  obtain ⟨g4, h⟩ := h
  obtain ⟨g5, h⟩ := h
  refine Z_newI dX8_init_16 ac_int g4 rfl g5 ?_
  obtain ⟨g6, h⟩ := h
  refine Z_put (T := TX8) (N := 9) (ci := 8) (t := 2) tyX8 1 dX8_init_18 hp0 g6 rfl (by decide) inX8 (by decide) (plX8_15 rfl rfl) rfl tyX8_ok nmX8 rfl (z_nf_a _ _) ?_
  refine Z_aload_n 0 dX8_init_21 rfl rfl ?_
  refine Z_bipush dX8_init_22 (by decide) ?_
  obtain ⟨g7, h⟩ := h
  obtain ⟨g8, h⟩ := h
  refine Z_newI dX8_init_24 ac_int g7 rfl g8 ?_
  obtain ⟨g9, h⟩ := h
  refine Z_put (T := TX8) (N := 9) (ci := 8) (t := 2) tyX8 2 dX8_init_26 hp0 g9 rfl (by decide) inX8 (by decide) (plX8_19 rfl rfl) rfl tyX8_ok nmX8 rfl (z_nf_a _ _) ?_
  refine Z_iconst dX8_init_29 ?_
  refine Z_istore_n (L' := [(2, p0), (0, 0)]) 1 dX8_init_30 rfl (Nat.le_of_ble_eq_true rfl) rfl ?_
  exact Z_few (z_few_k (z_few_k z_few_0)) h
theorem bk_X8_init_31 {X : ZS} {n : Nat} {n1 : Nat} {σ : ZM} {T : ZM → Prop} {p0 : Int} (hp0 : z_l p0 = (8, 9)) {x1 : Int} (h : (r32 x1) ∧ ((8 ≤ x1) → (n = n1) ∧ T σ) ∧ ((¬ (8 ≤ x1)) → (p0.toNat ≤ n) ∧ (σ p0 2 = (p0 + 3)) ∧ ((p0 + 3).toNat ≤ n) ∧ (0 ≤ x1) ∧ (x1 < 8) ∧ Z X (rX8_init n1) mX8_init 31 [(2, p0), (0, (x1 + 1))] [] n (z_up σ (p0 + 3) x1 (-1)) (zQv T))) : Z X (rX8_init n1) mX8_init 31 [(2, p0), (0, x1)] [] n σ (zQv T) := by
  refine Z_iload_n 1 dX8_init_31 rfl rfl ?_
  refine Z_bipush dX8_init_32 (by decide) ?_
  obtain ⟨g1, h⟩ := h
  refine Z_icmp_ge (tgt := 50) dX8_init_34 (by decide) g1 ⟨by decide, by decide⟩ (fun c => ?_) (fun c => ?_)
  · replace h := h.1 c
    obtain ⟨g2, h⟩ := h
    exact Z_return dX8_init_50 rfl g2 ⟨rfl, h⟩
  · replace h := h.2 c
    refine Z_aload_n 0 dX8_init_37 rfl rfl ?_
    obtain ⟨g3, h⟩ := h
    obtain ⟨g4, h⟩ := h
    refine Z_get (T := TX8) (N := 9) (ci := 8) (t := 2) 2 dX8_init_38 hp0 g3 rfl (by decide) inX8 (by decide) (flX8_19 rfl) rfl ?_
    refine Z_top g4 ?_
    refine Z_iload_n 1 dX8_init_41 rfl rfl ?_
    refine Z_iconst dX8_init_42 ?_
    obtain ⟨g5, h⟩ := h
    obtain ⟨g6, h⟩ := h
    obtain ⟨g7, h⟩ := h
    refine Z_iast dX8_init_43 (zo_8_2 hp0) g5 g6 g7 ?_
    refine Z_iinc (L' := [(2, p0), (0, (x1 + 1))]) dX8_init_44 rfl (Nat.le_of_ble_eq_true rfl) rfl ?_
    refine Z_goto (tgt := 31) dX8_init_47 (by decide) ?_
    exact Z_few (z_few_k (z_few_k z_few_0)) h
theorem bk_X8_exists {X : ZS} {σ : ZM} {T : Bool → ZM → Prop} {x1 : Int} (h : (r32 x1) ∧ ((x1 < 0) → T false σ) ∧ ((¬ (x1 < 0)) → ((8 ≤ x1) → T false σ) ∧ ((¬ (8 ≤ x1)) → T true σ))) : ZC X (rX8_exists zN) mX8_exists [(2, 2), (0, x1)] zN σ (zQz T) := by
  show Z X _ _ 0 [(2, 2), (0, x1)] [] _ σ _
  refine Z_iload_n 1 dX8_exists_0 rfl rfl ?_
  obtain ⟨g1, h⟩ := h
  refine Z_if_lt (tgt := 14) dX8_exists_1 (by decide) g1 (fun c => ?_) (fun c => ?_)
  · replace h := h.1 c
    refine Z_iconst dX8_exists_14 ?_
    exact Z_zreturn dX8_exists_15 rfl (Or.inl rfl) rfl ⟨rfl, false, rfl, h⟩
  · replace h := h.2 c
    refine Z_iload_n 1 dX8_exists_4 rfl rfl ?_
    refine Z_bipush dX8_exists_5 (by decide) ?_
    refine Z_icmp_ge (tgt := 14) dX8_exists_7 (by decide) g1 ⟨by decide, by decide⟩ (fun c => ?_) (fun c => ?_)
    · replace h := h.1 c
      refine Z_iconst dX8_exists_14 ?_
      exact Z_zreturn dX8_exists_15 rfl (Or.inl rfl) rfl ⟨rfl, false, rfl, h⟩
    · replace h := h.2 c
      refine Z_iconst dX8_exists_10 ?_
      refine Z_goto (tgt := 15) dX8_exists_11 (by decide) ?_
      exact Z_zreturn dX8_exists_15 rfl (Or.inr rfl) rfl ⟨rfl, true, rfl, h⟩
theorem bk_X8_holds {X : ZS} {σ : ZM} {T : Bool → ZM → Prop} {x1 : Int} (h : ZC X (rX8_exists zN) mX8_exists [(2, 2), (0, x1)] zN σ (zQz (fun r1 σ2 => ((r1 = false) → T false σ2) ∧ ((r1 = true) → (Fix σ2) ∧ (0 ≤ x1) ∧ (x1 < 8) ∧ (r32 (σ2 5 x1)) ∧ (((σ2 5 x1) = (-1)) → T false σ2) ∧ ((¬ (σ2 5 x1) = (-1)) → T true σ2))))) : ZC X (rX8_holds zN) mX8_holds [(2, 2), (0, x1)] zN σ (zQz T) := by
  show Z X _ _ 0 [(2, 2), (0, x1)] [] _ σ _
  refine Z_aload_n 0 dX8_holds_0 rfl rfl ?_
  refine Z_iload_n 1 dX8_holds_1 rfl rfl ?_
  refine Z_invV (T := TX8) (N := 9) (ci := 8) (M' := mX8_exists) (ρ' := rX8_exists zN) (st := []) [(0, x1)] dX8_holds_2 rfl rfl la_2 (z_leN la_2 (by decide)) (by decide) rfl rfl (kX8_exists.cl (Nat.le_of_ble_eq_true rfl) (Nat.le_refl _) (Nat.le_refl _) (Nat.le_of_ble_eq_true rfl) (Nat.le_of_ble_eq_true rfl) (Nat.le_of_ble_eq_true rfl)) (mlX8_22 rfl) iX8_exists sX8_exists h (z_kz (fun r1 σ2 h => ?_))
  refine Z_zif_eq (tgt := 22) dX8_holds_5 (by decide) (fun c => ?_) (fun c => ?_)
  · replace h := h.1 c
    refine Z_iconst dX8_holds_22 ?_
    exact Z_zreturn dX8_holds_23 rfl (Or.inl rfl) rfl ⟨rfl, false, rfl, h⟩
  · replace h := h.2 c
    refine Z_aload_n 0 dX8_holds_8 rfl rfl ?_
    obtain ⟨g3, h⟩ := h
    refine Z_get (T := TX8) (N := 9) (ci := 8) (t := 2) 2 dX8_holds_9 la_2 (z_leN la_2 (by decide)) rfl (by decide) inX8 (by decide) (flX8_19 rfl) rfl ?_
    refine Z_top (y := 5) ((Fix.get g3 la_2 2 3 (by decide +kernel)).trans (by clear h; omega)) ?_
    refine Z_iload_n 1 dX8_holds_12 rfl rfl ?_
    obtain ⟨g4, h⟩ := h
    obtain ⟨g5, h⟩ := h
    refine Z_iald dX8_holds_13 la_5 (z_leN la_5 (by decide)) g4 g5 ?_
    refine Z_iconst dX8_holds_14 ?_
    obtain ⟨g6, h⟩ := h
    refine Z_icmp_eq (tgt := 22) dX8_holds_15 (by decide) g6 ⟨by decide, by decide⟩ (fun c => ?_) (fun c => ?_)
    · replace h := h.1 c
      refine Z_iconst dX8_holds_22 ?_
      exact Z_zreturn dX8_holds_23 rfl (Or.inl rfl) rfl ⟨rfl, false, rfl, h⟩
    · replace h := h.2 c
      refine Z_iconst dX8_holds_18 ?_
      refine Z_goto (tgt := 23) dX8_holds_19 (by decide) ?_
      exact Z_zreturn dX8_holds_23 rfl (Or.inr rfl) rfl ⟨rfl, true, rfl, h⟩
theorem bk_X8_holdsNumber {X : ZS} {σ : ZM} {T : Bool → ZM → Prop} {x1 : Int} {x2 : Int} (h : ZC X (rX8_holds zN) mX8_holds [(2, 2), (0, x1)] zN σ (zQz (fun r1 σ2 => ((r1 = false) → T false σ2) ∧ ((r1 = true) → (r32 x2) ∧ ((x2 < 0) → T false σ2) ∧ ((¬ (x2 < 0)) → (Fix σ2) ∧ (0 ≤ x1) ∧ (x1 < 8) ∧ (r32 (σ2 5 x1)) ∧ (((σ2 5 x1) ≤ x2) → T false σ2) ∧ ((¬ ((σ2 5 x1) ≤ x2)) → T true σ2)))))) : ZC X (rX8_holdsNumber zN) mX8_holdsNumber [(2, 2), (0, x1), (0, x2)] zN σ (zQz T) := by
  show Z X _ _ 0 [(2, 2), (0, x1), (0, x2)] [] _ σ _
  refine Z_aload_n 0 dX8_holdsNumber_0 rfl rfl ?_
  refine Z_iload_n 1 dX8_holdsNumber_1 rfl rfl ?_
  refine Z_invV (T := TX8) (N := 9) (ci := 8) (M' := mX8_holds) (ρ' := rX8_holds zN) (st := []) [(0, x1)] dX8_holdsNumber_2 rfl rfl la_2 (z_leN la_2 (by decide)) (by decide) rfl rfl (kX8_holds.cl (Nat.le_of_ble_eq_true rfl) (Nat.le_refl _) (Nat.le_refl _) (Nat.le_of_ble_eq_true rfl) (Nat.le_of_ble_eq_true rfl) (Nat.le_of_ble_eq_true rfl)) (mlX8_26 rfl) iX8_holds sX8_holds h (z_kz (fun r1 σ2 h => ?_))
  refine Z_zif_eq (tgt := 26) dX8_holdsNumber_5 (by decide) (fun c => ?_) (fun c => ?_)
  · replace h := h.1 c
    refine Z_iconst dX8_holdsNumber_26 ?_
    exact Z_zreturn dX8_holdsNumber_27 rfl (Or.inl rfl) rfl ⟨rfl, false, rfl, h⟩
  · replace h := h.2 c
    refine Z_iload_n 2 dX8_holdsNumber_8 rfl rfl ?_
    obtain ⟨g3, h⟩ := h
    refine Z_if_lt (tgt := 26) dX8_holdsNumber_9 (by decide) g3 (fun c => ?_) (fun c => ?_)
    · replace h := h.1 c
      refine Z_iconst dX8_holdsNumber_26 ?_
      exact Z_zreturn dX8_holdsNumber_27 rfl (Or.inl rfl) rfl ⟨rfl, false, rfl, h⟩
    · replace h := h.2 c
      refine Z_iload_n 2 dX8_holdsNumber_12 rfl rfl ?_
      refine Z_aload_n 0 dX8_holdsNumber_13 rfl rfl ?_
      obtain ⟨g4, h⟩ := h
      refine Z_get (T := TX8) (N := 9) (ci := 8) (t := 2) 2 dX8_holdsNumber_14 la_2 (z_leN la_2 (by decide)) rfl (by decide) inX8 (by decide) (flX8_19 rfl) rfl ?_
      refine Z_top (y := 5) ((Fix.get g4 la_2 2 3 (by decide +kernel)).trans (by clear h; omega)) ?_
      refine Z_iload_n 1 dX8_holdsNumber_17 rfl rfl ?_
      obtain ⟨g5, h⟩ := h
      obtain ⟨g6, h⟩ := h
      refine Z_iald dX8_holdsNumber_18 la_5 (z_leN la_5 (by decide)) g5 g6 ?_
      obtain ⟨g7, h⟩ := h
      refine Z_icmp_ge (tgt := 26) dX8_holdsNumber_19 (by decide) g3 g7 (fun c => ?_) (fun c => ?_)
      · replace h := h.1 c
        refine Z_iconst dX8_holdsNumber_26 ?_
        exact Z_zreturn dX8_holdsNumber_27 rfl (Or.inl rfl) rfl ⟨rfl, false, rfl, h⟩
      · replace h := h.2 c
        refine Z_iconst dX8_holdsNumber_22 ?_
        refine Z_goto (tgt := 27) dX8_holdsNumber_23 (by decide) ?_
        exact Z_zreturn dX8_holdsNumber_27 rfl (Or.inr rfl) rfl ⟨rfl, true, rfl, h⟩
theorem bk_X8_lay {X : ZS} {σ : ZM} {T : ZM → Prop} {x1 : Int} {x2 : Int} {x3 : Int} (h : ZC X (rX8_exists zN) mX8_exists [(2, 2), (0, x1)] zN σ (zQz (fun r1 σ2 => ((r1 = true) → (Fix σ2) ∧ (0 ≤ x1) ∧ (x1 < 8) ∧ Z X (rX8_lay zN) mX8_lay 26 [(2, 2), (0, x1), (9, 0), (0, x3), (0, 0)] [] zN (z_up (z_up σ2 4 x1 x2) 5 x1 x3) (zQv T)) ∧ ((r1 = false) → T σ2)))) : ZC X (rX8_lay zN) mX8_lay [(2, 2), (0, x1), (0, x2), (0, x3)] zN σ (zQv T) := by
  show Z X _ _ 0 [(2, 2), (0, x1), (0, x2), (0, x3), (9, 0)] [] _ σ _
  refine Z_aload_n 0 dX8_lay_0 rfl rfl ?_
  refine Z_iload_n 1 dX8_lay_1 rfl rfl ?_
  refine Z_invV (T := TX8) (N := 9) (ci := 8) (M' := mX8_exists) (ρ' := rX8_exists zN) (st := []) [(0, x1)] dX8_lay_2 rfl rfl la_2 (z_leN la_2 (by decide)) (by decide) rfl rfl (kX8_exists.cl (Nat.le_of_ble_eq_true rfl) (Nat.le_refl _) (Nat.le_refl _) (Nat.le_of_ble_eq_true rfl) (Nat.le_of_ble_eq_true rfl) (Nat.le_of_ble_eq_true rfl)) (mlX8_22 rfl) iX8_exists sX8_exists h (z_kz (fun r1 σ2 h => ?_))
  refine Z_zif_ne (tgt := 9) dX8_lay_5 (by decide) (fun c => ?_) (fun c => ?_)
  · replace h := h.1 c
    refine Z_aload_n 0 dX8_lay_9 rfl rfl ?_
    obtain ⟨g3, h⟩ := h
    refine Z_get (T := TX8) (N := 9) (ci := 8) (t := 2) 1 dX8_lay_10 la_2 (z_leN la_2 (by decide)) rfl (by decide) inX8 (by decide) (flX8_15 rfl) rfl ?_
    refine Z_top (y := 4) ((Fix.get g3 la_2 1 2 (by decide +kernel)).trans (by clear h; omega)) ?_
    refine Z_iload_n 1 dX8_lay_13 rfl rfl ?_
    refine Z_iload_n 2 dX8_lay_14 rfl rfl ?_
    obtain ⟨g4, h⟩ := h
    obtain ⟨g5, h⟩ := h
    refine Z_iast dX8_lay_15 la_4 (z_leN la_4 (by decide)) g4 g5 ?_
    refine Z_aload_n 0 dX8_lay_16 rfl rfl ?_
    refine Z_get (T := TX8) (N := 9) (ci := 8) (t := 2) 2 dX8_lay_17 la_2 (z_leN la_2 (by decide)) rfl (by decide) inX8 (by decide) (flX8_19 rfl) rfl ?_
    refine Z_top (y := 5) ((Fix.get (Fix.upA g3 la_4 (by decide)) la_2 2 3 (by decide +kernel)).trans (by clear h; omega)) ?_
    refine Z_iload_n 1 dX8_lay_20 rfl rfl ?_
    refine Z_iload_n 3 dX8_lay_21 rfl rfl ?_
    refine Z_iast dX8_lay_22 la_5 (z_leN la_5 (by decide)) g4 g5 ?_
    refine Z_iconst dX8_lay_23 ?_
    refine Z_istore (L' := [(2, 2), (0, x1), (0, x2), (0, x3), (0, 0)]) dX8_lay_24 (Nat.le_of_ble_eq_true rfl) rfl ?_
    exact Z_few (z_few_k (z_few_k (z_few_d (z_few_k (z_few_k z_few_0))))) h
  · replace h := h.2 c
    exact Z_return dX8_lay_8 rfl rfl ⟨rfl, h⟩
theorem bk_X8_lay_26 {X : ZS} {σ : ZM} {T : ZM → Prop} {x1 : Int} {x3 : Int} {x4 : Int} (h : (r32 x4) ∧ (r32 x3) ∧ ((x3 ≤ x4) → T σ) ∧ ((¬ (x3 ≤ x4)) → ((60 ≤ x4) → T σ) ∧ ((¬ (60 ≤ x4)) → (Fix σ) ∧ (0 ≤ ((x1 * 60) + x4)) ∧ (((x1 * 60) + x4) < 480) ∧ Z X (rX8_lay zN) mX8_lay 26 [(2, 2), (0, x1), (9, 0), (0, x3), (0, (x4 + 1))] [] zN (z_up σ 3 ((x1 * 60) + x4) 0) (zQv T)))) : Z X (rX8_lay zN) mX8_lay 26 [(2, 2), (0, x1), (9, 0), (0, x3), (0, x4)] [] zN σ (zQv T) := by
  refine Z_iload dX8_lay_26 rfl ?_
  refine Z_iload_n 3 dX8_lay_28 rfl rfl ?_
  obtain ⟨g1, h⟩ := h
  obtain ⟨g2, h⟩ := h
  refine Z_icmp_ge (tgt := 58) dX8_lay_29 (by decide) g1 g2 (fun c => ?_) (fun c => ?_)
  · replace h := h.1 c
    exact Z_return dX8_lay_58 rfl rfl ⟨rfl, h⟩
  · replace h := h.2 c
    refine Z_iload dX8_lay_32 rfl ?_
    refine Z_bipush dX8_lay_34 (by decide) ?_
    refine Z_icmp_ge (tgt := 58) dX8_lay_36 (by decide) g1 ⟨by decide, by decide⟩ (fun c => ?_) (fun c => ?_)
    · replace h := h.1 c
      exact Z_return dX8_lay_58 rfl rfl ⟨rfl, h⟩
    · replace h := h.2 c
      refine Z_aload_n 0 dX8_lay_39 rfl rfl ?_
      obtain ⟨g3, h⟩ := h
      refine Z_get (T := TX8) (N := 9) (ci := 8) (t := 2) 0 dX8_lay_40 la_2 (z_leN la_2 (by decide)) rfl (by decide) inX8 (by decide) (flX8_11 rfl) rfl ?_
      refine Z_top (y := 3) ((Fix.get g3 la_2 0 1 (by decide +kernel)).trans (by clear h; omega)) ?_
      refine Z_iload_n 1 dX8_lay_43 rfl rfl ?_
      refine Z_bipush dX8_lay_44 (by decide) ?_
      refine Z_imul dX8_lay_46 ?_
      refine Z_iload dX8_lay_47 rfl ?_
      refine Z_iadd dX8_lay_49 ?_
      refine Z_lconst (x := 0) dX8_lay_50 rfl ?_
      obtain ⟨g4, h⟩ := h
      obtain ⟨g5, h⟩ := h
      refine Z_last dX8_lay_51 la_3 (z_leN la_3 (by decide)) g4 g5 ?_
      refine Z_iinc (L' := [(2, 2), (0, x1), (9, 0), (0, x3), (0, (x4 + 1))]) dX8_lay_52 rfl (Nat.le_of_ble_eq_true rfl) rfl ?_
      refine Z_goto (tgt := 26) dX8_lay_55 (by decide) ?_
      exact Z_few (z_few_k (z_few_k (z_few_k (z_few_k (z_few_k z_few_0))))) h
theorem bk_X8_empty {X : ZS} {σ : ZM} {T : ZM → Prop} {x1 : Int} (h : ZC X (rX8_exists zN) mX8_exists [(2, 2), (0, x1)] zN σ (zQz (fun r1 σ2 => ((r1 = false) → T σ2) ∧ ((r1 = true) → (Fix σ2) ∧ (0 ≤ x1) ∧ (x1 < 8) ∧ T (z_up σ2 5 x1 (-1)))))) : ZC X (rX8_empty zN) mX8_empty [(2, 2), (0, x1)] zN σ (zQv T) := by
  show Z X _ _ 0 [(2, 2), (0, x1)] [] _ σ _
  refine Z_aload_n 0 dX8_empty_0 rfl rfl ?_
  refine Z_iload_n 1 dX8_empty_1 rfl rfl ?_
  refine Z_invV (T := TX8) (N := 9) (ci := 8) (M' := mX8_exists) (ρ' := rX8_exists zN) (st := []) [(0, x1)] dX8_empty_2 rfl rfl la_2 (z_leN la_2 (by decide)) (by decide) rfl rfl (kX8_exists.cl (Nat.le_of_ble_eq_true rfl) (Nat.le_refl _) (Nat.le_refl _) (Nat.le_of_ble_eq_true rfl) (Nat.le_of_ble_eq_true rfl) (Nat.le_of_ble_eq_true rfl)) (mlX8_22 rfl) iX8_exists sX8_exists h (z_kz (fun r1 σ2 h => ?_))
  refine Z_zif_eq (tgt := 15) dX8_empty_5 (by decide) (fun c => ?_) (fun c => ?_)
  · replace h := h.1 c
    exact Z_return dX8_empty_15 rfl rfl ⟨rfl, h⟩
  · replace h := h.2 c
    refine Z_aload_n 0 dX8_empty_8 rfl rfl ?_
    obtain ⟨g3, h⟩ := h
    refine Z_get (T := TX8) (N := 9) (ci := 8) (t := 2) 2 dX8_empty_9 la_2 (z_leN la_2 (by decide)) rfl (by decide) inX8 (by decide) (flX8_19 rfl) rfl ?_
    refine Z_top (y := 5) ((Fix.get g3 la_2 2 3 (by decide +kernel)).trans (by clear h; omega)) ?_
    refine Z_iload_n 1 dX8_empty_12 rfl rfl ?_
    refine Z_iconst dX8_empty_13 ?_
    obtain ⟨g4, h⟩ := h
    obtain ⟨g5, h⟩ := h
    refine Z_iast dX8_empty_14 la_5 (z_leN la_5 (by decide)) g4 g5 ?_
    exact Z_return dX8_empty_15 rfl rfl ⟨rfl, h⟩
theorem bk_X8_put {X : ZS} {σ : ZM} {T : Bool → ZM → Prop} {x1 : Int} {x2 : Int} {x3 : Int} (h : ZC X (rX8_holdsNumber zN) mX8_holdsNumber [(2, 2), (0, x1), (0, x2)] zN σ (zQz (fun r1 σ2 => ((r1 = true) → (Fix σ2) ∧ (0 ≤ x1) ∧ (x1 < 8) ∧ ZC X (rX8_cut zN) mX8_cut [(1, x3), (0, (σ2 4 x1))] zN σ2 (zQl (fun r6 σ7 => (0 ≤ ((x1 * 60) + x2)) ∧ (((x1 * 60) + x2) < 480) ∧ T true (z_up σ7 3 ((x1 * 60) + x2) r6)))) ∧ ((r1 = false) → T false σ2)))) : ZC X (rX8_put zN) mX8_put [(2, 2), (0, x1), (0, x2), (1, x3)] zN σ (zQz T) := by
  show Z X _ _ 0 [(2, 2), (0, x1), (0, x2), (1, x3), (9, 0)] [] _ σ _
  refine Z_aload_n 0 dX8_put_0 rfl rfl ?_
  refine Z_iload_n 1 dX8_put_1 rfl rfl ?_
  refine Z_iload_n 2 dX8_put_2 rfl rfl ?_
  refine Z_invV (T := TX8) (N := 9) (ci := 8) (M' := mX8_holdsNumber) (ρ' := rX8_holdsNumber zN) (st := []) [(0, x1), (0, x2)] dX8_put_3 rfl rfl la_2 (z_leN la_2 (by decide)) (by decide) rfl rfl (kX8_holdsNumber.cl (Nat.le_of_ble_eq_true rfl) (Nat.le_refl _) (Nat.le_refl _) (Nat.le_of_ble_eq_true rfl) (Nat.le_of_ble_eq_true rfl) (Nat.le_of_ble_eq_true rfl)) (mlX8_29 rfl) iX8_holdsNumber sX8_holdsNumber h (z_kz (fun r1 σ2 h => ?_))
  refine Z_zif_ne (tgt := 11) dX8_put_6 (by decide) (fun c => ?_) (fun c => ?_)
  · replace h := h.1 c
    refine Z_aload_n 0 dX8_put_11 rfl rfl ?_
    obtain ⟨g3, h⟩ := h
    refine Z_get (T := TX8) (N := 9) (ci := 8) (t := 2) 0 dX8_put_12 la_2 (z_leN la_2 (by decide)) rfl (by decide) inX8 (by decide) (flX8_11 rfl) rfl ?_
    refine Z_top (y := 3) ((Fix.get g3 la_2 0 1 (by decide +kernel)).trans (by clear h; omega)) ?_
    refine Z_iload_n 1 dX8_put_15 rfl rfl ?_
    refine Z_bipush dX8_put_16 (by decide) ?_
    refine Z_imul dX8_put_18 ?_
    refine Z_iload_n 2 dX8_put_19 rfl rfl ?_
    refine Z_iadd dX8_put_20 ?_
    refine Z_lload_n 3 dX8_put_21 rfl rfl ?_
    refine Z_aload_n 0 dX8_put_22 rfl rfl ?_
    refine Z_get (T := TX8) (N := 9) (ci := 8) (t := 2) 1 dX8_put_23 la_2 (z_leN la_2 (by decide)) rfl (by decide) inX8 (by decide) (flX8_15 rfl) rfl ?_
    refine Z_top (y := 4) ((Fix.get g3 la_2 1 2 (by decide +kernel)).trans (by clear h; omega)) ?_
    refine Z_iload_n 1 dX8_put_26 rfl rfl ?_
    obtain ⟨g4, h⟩ := h
    obtain ⟨g5, h⟩ := h
    refine Z_iald dX8_put_27 la_4 (z_leN la_4 (by decide)) g4 g5 ?_
    refine Z_invS (M' := mX8_cut) (ρ' := rX8_cut zN) (st := [(0, ((x1 * 60) + x2)), (2, 3)]) [(1, x3), (0, (σ2 4 x1))] dX8_put_28 rfl rfl (kX8_cut.cl (Nat.le_of_ble_eq_true rfl) (Nat.le_refl _) (Nat.le_refl _) (Nat.le_of_ble_eq_true rfl) (Nat.le_of_ble_eq_true rfl) (Nat.le_of_ble_eq_true rfl)) (mlX8_33 rfl) sX8_cut h (z_kl (fun r6 σ7 h => ?_))
    obtain ⟨g8, h⟩ := h
    obtain ⟨g9, h⟩ := h
    refine Z_last dX8_put_31 la_3 (z_leN la_3 (by decide)) g8 g9 ?_
    refine Z_iconst dX8_put_32 ?_
    exact Z_zreturn dX8_put_33 rfl (Or.inr rfl) rfl ⟨rfl, true, rfl, h⟩
  · replace h := h.2 c
    refine Z_iconst dX8_put_9 ?_
    exact Z_zreturn dX8_put_10 rfl (Or.inl rfl) rfl ⟨rfl, false, rfl, h⟩
theorem bk_X8_countHeld {X : ZS} {σ : ZM} {T : Int → ZM → Prop}  (h : Z X (rX8_countHeld zN) mX8_countHeld 4 [(2, 2), (0, 0), (0, 0)] [] zN σ (zQi T)) : ZC X (rX8_countHeld zN) mX8_countHeld [(2, 2)] zN σ (zQi T) := by
  show Z X _ _ 0 [(2, 2), (9, 0), (9, 0)] [] _ σ _
  refine Z_iconst dX8_countHeld_0 ?_
  refine Z_istore_n (L' := [(2, 2), (0, 0), (9, 0)]) 1 dX8_countHeld_1 rfl (Nat.le_of_ble_eq_true rfl) rfl ?_
  refine Z_iconst dX8_countHeld_2 ?_
  refine Z_istore_n (L' := [(2, 2), (0, 0), (0, 0)]) 2 dX8_countHeld_3 rfl (Nat.le_of_ble_eq_true rfl) rfl ?_
  exact Z_few (z_few_k (z_few_k (z_few_k z_few_0))) h
theorem bk_X8_countHeld_4 {X : ZS} {σ : ZM} {T : Int → ZM → Prop} {x1 : Int} {x2 : Int} (h : (r32 x2) ∧ ((8 ≤ x2) → T x1 σ) ∧ ((¬ (8 ≤ x2)) → ZC X (rX8_holds zN) mX8_holds [(2, 2), (0, x2)] zN σ (zQz (fun r2 σ3 => ((r2 = false) → Z X (rX8_countHeld zN) mX8_countHeld 4 [(2, 2), (0, x1), (0, (x2 + 1))] [] zN σ3 (zQi T)) ∧ ((r2 = true) → Z X (rX8_countHeld zN) mX8_countHeld 4 [(2, 2), (0, (x1 + 1)), (0, (x2 + 1))] [] zN σ3 (zQi T)))))) : Z X (rX8_countHeld zN) mX8_countHeld 4 [(2, 2), (0, x1), (0, x2)] [] zN σ (zQi T) := by
  refine Z_iload_n 2 dX8_countHeld_4 rfl rfl ?_
  refine Z_bipush dX8_countHeld_5 (by decide) ?_
  obtain ⟨g1, h⟩ := h
  refine Z_icmp_ge (tgt := 27) dX8_countHeld_7 (by decide) g1 ⟨by decide, by decide⟩ (fun c => ?_) (fun c => ?_)
  · replace h := h.1 c
    refine Z_iload_n 1 dX8_countHeld_27 rfl rfl ?_
    exact Z_ireturn dX8_countHeld_28 rfl rfl ⟨rfl, h⟩
  · replace h := h.2 c
    refine Z_aload_n 0 dX8_countHeld_10 rfl rfl ?_
    refine Z_iload_n 2 dX8_countHeld_11 rfl rfl ?_
    refine Z_invV (T := TX8) (N := 9) (ci := 8) (M' := mX8_holds) (ρ' := rX8_holds zN) (st := []) [(0, x2)] dX8_countHeld_12 rfl rfl la_2 (z_leN la_2 (by decide)) (by decide) rfl rfl (kX8_holds.cl (Nat.le_of_ble_eq_true rfl) (Nat.le_refl _) (Nat.le_refl _) (Nat.le_of_ble_eq_true rfl) (Nat.le_of_ble_eq_true rfl) (Nat.le_of_ble_eq_true rfl)) (mlX8_26 rfl) iX8_holds sX8_holds h (z_kz (fun r2 σ3 h => ?_))
    refine Z_zif_eq (tgt := 21) dX8_countHeld_15 (by decide) (fun c => ?_) (fun c => ?_)
    · replace h := h.1 c
      refine Z_iinc (L' := [(2, 2), (0, x1), (0, (x2 + 1))]) dX8_countHeld_21 rfl (Nat.le_of_ble_eq_true rfl) rfl ?_
      refine Z_goto (tgt := 4) dX8_countHeld_24 (by decide) ?_
      exact Z_few (z_few_k (z_few_k (z_few_k z_few_0))) h
    · replace h := h.2 c
      refine Z_iinc (L' := [(2, 2), (0, (x1 + 1)), (0, x2)]) dX8_countHeld_18 rfl (Nat.le_of_ble_eq_true rfl) rfl ?_
      refine Z_iinc (L' := [(2, 2), (0, (x1 + 1)), (0, (x2 + 1))]) dX8_countHeld_21 rfl (Nat.le_of_ble_eq_true rfl) rfl ?_
      refine Z_goto (tgt := 4) dX8_countHeld_24 (by decide) ?_
      exact Z_few (z_few_k (z_few_k (z_few_k z_few_0))) h
theorem bk_X8_startReading {X : ZS} {σ : ZM} {T : ZM → Prop} {x1 : Int} (h : T (z_up (z_up (z_up σ 2 3 x1) 2 4 0) 2 8 0)) : ZC X (rX8_startReading zN) mX8_startReading [(2, 2), (0, x1)] zN σ (zQv T) := by
  show Z X _ _ 0 [(2, 2), (0, x1)] [] _ σ _
  refine Z_aload_n 0 dX8_startReading_0 rfl rfl ?_
  refine Z_iload_n 1 dX8_startReading_1 rfl rfl ?_
  refine Z_put (T := TX8) (N := 9) (ci := 8) (t := 0) tyX8 3 dX8_startReading_2 la_2 (z_leN la_2 (by decide)) rfl (by decide) inX8 (by decide) (plX8_37 rfl) rfl tyX8_ok nmX8 rfl (z_nf_i _) ?_
  refine Z_aload_n 0 dX8_startReading_5 rfl rfl ?_
  refine Z_iconst dX8_startReading_6 ?_
  refine Z_put (T := TX8) (N := 9) (ci := 8) (t := 0) tyX8 4 dX8_startReading_7 la_2 (z_leN la_2 (by decide)) rfl (by decide) inX8 (by decide) (plX8_41 rfl) rfl tyX8_ok nmX8 rfl (z_nf_i _) ?_
  refine Z_aload_n 0 dX8_startReading_10 rfl rfl ?_
  refine Z_iconst dX8_startReading_11 ?_
  refine Z_put (T := TX8) (N := 9) (ci := 8) (t := 0) tyX8 8 dX8_startReading_12 la_2 (z_leN la_2 (by decide)) rfl (by decide) inX8 (by decide) (plX8_44 rfl) rfl tyX8_ok nmX8 rfl (z_nf_i _) ?_
  exact Z_return dX8_startReading_15 rfl rfl ⟨rfl, h⟩
theorem bk_X8_readNext {X : ZS} {σ : ZM} {T : Bool → ZM → Prop} {x1 : Int} {x2 : Int} (h : ZC X (rX8_holdsNumber zN) mX8_holdsNumber [(2, 2), (0, (σ 2 3)), (0, (σ 2 4))] zN σ (zQz (fun r1 σ2 => ((r1 = true) → (Fix σ2) ∧ (0 ≤ (((σ2 2 3) * 60) + (σ2 2 4))) ∧ ((((σ2 2 3) * 60) + (σ2 2 4)) < 480) ∧ (r32 x1) ∧ (r64 (σ2 3 (((σ2 2 3) * 60) + (σ2 2 4)))) ∧ (r64 x1) ∧ (((σ2 3 (((σ2 2 3) * 60) + (σ2 2 4))) < x1) → T false (z_up σ2 2 8 (-4))) ∧ ((¬ ((σ2 3 (((σ2 2 3) * 60) + (σ2 2 4))) < x1)) → (r32 x2) ∧ (r64 x2) ∧ (((σ2 3 (((σ2 2 3) * 60) + (σ2 2 4))) ≤ x2) → T true (z_up (z_up σ2 2 5 (σ2 3 (((σ2 2 3) * 60) + (σ2 2 4)))) 2 4 ((σ2 2 4) + 1))) ∧ ((¬ ((σ2 3 (((σ2 2 3) * 60) + (σ2 2 4))) ≤ x2)) → T false (z_up σ2 2 8 (-4))))) ∧ ((r1 = false) → T false (z_up σ2 2 8 (-6)))))) : ZC X (rX8_readNext zN) mX8_readNext [(2, 2), (0, x1), (0, x2)] zN σ (zQz T) := by
  show Z X _ _ 0 [(2, 2), (0, x1), (0, x2), (9, 0), (9, 0)] [] _ σ _
  refine Z_aload_n 0 dX8_readNext_0 rfl rfl ?_
  refine Z_aload_n 0 dX8_readNext_1 rfl rfl ?_
  refine Z_get (T := TX8) (N := 9) (ci := 8) (t := 0) 3 dX8_readNext_2 la_2 (z_leN la_2 (by decide)) rfl (by decide) inX8 (by decide) (flX8_37 rfl) rfl ?_
  refine Z_aload_n 0 dX8_readNext_5 rfl rfl ?_
  refine Z_get (T := TX8) (N := 9) (ci := 8) (t := 0) 4 dX8_readNext_6 la_2 (z_leN la_2 (by decide)) rfl (by decide) inX8 (by decide) (flX8_41 rfl) rfl ?_
  refine Z_invV (T := TX8) (N := 9) (ci := 8) (M' := mX8_holdsNumber) (ρ' := rX8_holdsNumber zN) (st := []) [(0, (σ 2 3)), (0, (σ 2 4))] dX8_readNext_9 rfl rfl la_2 (z_leN la_2 (by decide)) (by decide) rfl rfl (kX8_holdsNumber.cl (Nat.le_of_ble_eq_true rfl) (Nat.le_refl _) (Nat.le_refl _) (Nat.le_of_ble_eq_true rfl) (Nat.le_of_ble_eq_true rfl) (Nat.le_of_ble_eq_true rfl)) (mlX8_29 rfl) iX8_holdsNumber sX8_holdsNumber h (z_kz (fun r1 σ2 h => ?_))
  refine Z_zif_ne (tgt := 23) dX8_readNext_12 (by decide) (fun c => ?_) (fun c => ?_)
  · replace h := h.1 c
    refine Z_aload_n 0 dX8_readNext_23 rfl rfl ?_
    obtain ⟨g3, h⟩ := h
    refine Z_get (T := TX8) (N := 9) (ci := 8) (t := 2) 0 dX8_readNext_24 la_2 (z_leN la_2 (by decide)) rfl (by decide) inX8 (by decide) (flX8_11 rfl) rfl ?_
    refine Z_top (y := 3) ((Fix.get g3 la_2 0 1 (by decide +kernel)).trans (by clear h; omega)) ?_
    refine Z_aload_n 0 dX8_readNext_27 rfl rfl ?_
    refine Z_get (T := TX8) (N := 9) (ci := 8) (t := 0) 3 dX8_readNext_28 la_2 (z_leN la_2 (by decide)) rfl (by decide) inX8 (by decide) (flX8_37 rfl) rfl ?_
    refine Z_bipush dX8_readNext_31 (by decide) ?_
    refine Z_imul dX8_readNext_33 ?_
    refine Z_aload_n 0 dX8_readNext_34 rfl rfl ?_
    refine Z_get (T := TX8) (N := 9) (ci := 8) (t := 0) 4 dX8_readNext_35 la_2 (z_leN la_2 (by decide)) rfl (by decide) inX8 (by decide) (flX8_41 rfl) rfl ?_
    refine Z_iadd dX8_readNext_38 ?_
    obtain ⟨g4, h⟩ := h
    obtain ⟨g5, h⟩ := h
    refine Z_lald dX8_readNext_39 la_3 (z_leN la_3 (by decide)) g4 g5 ?_
    refine Z_lstore_n (L' := [(2, 2), (0, x1), (0, x2), (1, (σ2 3 (((σ2 2 3) * 60) + (σ2 2 4)))), (9, 0)]) 3 dX8_readNext_40 rfl (Nat.le_of_ble_eq_true rfl) rfl ?_
    refine Z_lload_n 3 dX8_readNext_41 rfl rfl ?_
    refine Z_iload_n 1 dX8_readNext_42 rfl rfl ?_
    obtain ⟨g6, h⟩ := h
    refine Z_i2l dX8_readNext_43 g6 ?_
    obtain ⟨g7, h⟩ := h
    obtain ⟨g8, h⟩ := h
    refine Z_lc_lt (tgt := 55) dX8_readNext_44 dX8_readNext_45 (by decide) g7 g8 (fun c => ?_) (fun c => ?_)
    · replace h := h.1 c
      refine Z_aload_n 0 dX8_readNext_55 rfl rfl ?_
      refine Z_bipush dX8_readNext_56 (by decide) ?_
      refine Z_put (T := TX8) (N := 9) (ci := 8) (t := 0) tyX8 8 dX8_readNext_58 la_2 (z_leN la_2 (by decide)) rfl (by decide) inX8 (by decide) (plX8_44 rfl) rfl tyX8_ok nmX8 rfl (z_nf_i _) ?_
      refine Z_iconst dX8_readNext_61 ?_
      exact Z_zreturn dX8_readNext_62 rfl (Or.inl rfl) rfl ⟨rfl, false, rfl, h⟩
    · replace h := h.2 c
      refine Z_lload_n 3 dX8_readNext_48 rfl rfl ?_
      refine Z_iload_n 2 dX8_readNext_49 rfl rfl ?_
      obtain ⟨g9, h⟩ := h
      refine Z_i2l dX8_readNext_50 g9 ?_
      obtain ⟨g10, h⟩ := h
      refine Z_lc_le (tgt := 63) dX8_readNext_51 dX8_readNext_52 (by decide) g7 g10 (fun c => ?_) (fun c => ?_)
      · replace h := h.1 c
        refine Z_aload_n 0 dX8_readNext_63 rfl rfl ?_
        refine Z_lload_n 3 dX8_readNext_64 rfl rfl ?_
        refine Z_l2i dX8_readNext_65 ?_
        refine Z_put (T := TX8) (N := 9) (ci := 8) (t := 0) tyX8 5 dX8_readNext_66 la_2 (z_leN la_2 (by decide)) rfl (by decide) inX8 (by decide) (plX8_47 rfl) rfl tyX8_ok nmX8 rfl (z_nf_i _) ?_
        refine Z_aload_n 0 dX8_readNext_69 rfl rfl ?_
        refine Z_dup dX8_readNext_70 (by simp) ?_
        refine Z_get (T := TX8) (N := 9) (ci := 8) (t := 0) 4 dX8_readNext_71 la_2 (z_leN la_2 (by decide)) rfl (by decide) inX8 (by decide) (flX8_41 rfl) rfl ?_
        refine Z_top (z_up_ne _ (Or.inr (by decide))) ?_
        refine Z_iconst dX8_readNext_74 ?_
        refine Z_iadd dX8_readNext_75 ?_
        refine Z_put (T := TX8) (N := 9) (ci := 8) (t := 0) tyX8 4 dX8_readNext_76 la_2 (z_leN la_2 (by decide)) rfl (by decide) inX8 (by decide) (plX8_41 rfl) rfl tyX8_ok nmX8 rfl (z_nf_i _) ?_
        refine Z_iconst dX8_readNext_79 ?_
        exact Z_zreturn dX8_readNext_80 rfl (Or.inr rfl) rfl ⟨rfl, true, rfl, h⟩
      · replace h := h.2 c
        refine Z_aload_n 0 dX8_readNext_55 rfl rfl ?_
        refine Z_bipush dX8_readNext_56 (by decide) ?_
        refine Z_put (T := TX8) (N := 9) (ci := 8) (t := 0) tyX8 8 dX8_readNext_58 la_2 (z_leN la_2 (by decide)) rfl (by decide) inX8 (by decide) (plX8_44 rfl) rfl tyX8_ok nmX8 rfl (z_nf_i _) ?_
        refine Z_iconst dX8_readNext_61 ?_
        exact Z_zreturn dX8_readNext_62 rfl (Or.inl rfl) rfl ⟨rfl, false, rfl, h⟩
  · replace h := h.2 c
    refine Z_aload_n 0 dX8_readNext_15 rfl rfl ?_
    refine Z_bipush dX8_readNext_16 (by decide) ?_
    refine Z_put (T := TX8) (N := 9) (ci := 8) (t := 0) tyX8 8 dX8_readNext_18 la_2 (z_leN la_2 (by decide)) rfl (by decide) inX8 (by decide) (plX8_44 rfl) rfl tyX8_ok nmX8 rfl (z_nf_i _) ?_
    refine Z_iconst dX8_readNext_21 ?_
    exact Z_zreturn dX8_readNext_22 rfl (Or.inl rfl) rfl ⟨rfl, false, rfl, h⟩
theorem bk_X8_readPlace {X : ZS} {σ : ZM} {T : Bool → ZM → Prop}  (h : ZC X (rX8_readNext zN) mX8_readNext [(2, 2), (0, (-20)), (0, 20)] zN σ (zQz (fun r1 σ2 => ((r1 = true) → ZC X (rX8_readNext zN) mX8_readNext [(2, 2), (0, (-20)), (0, 20)] zN (z_up σ2 2 6 (σ2 2 5)) (zQz (fun r3 σ4 => ((r3 = true) → T true (z_up σ4 2 7 (σ4 2 5))) ∧ ((r3 = false) → T false σ4)))) ∧ ((r1 = false) → T false σ2)))) : ZC X (rX8_readPlace zN) mX8_readPlace [(2, 2)] zN σ (zQz T) := by
  show Z X _ _ 0 [(2, 2)] [] _ σ _
  refine Z_aload_n 0 dX8_readPlace_0 rfl rfl ?_
  refine Z_bipush dX8_readPlace_1 (by decide) ?_
  refine Z_bipush dX8_readPlace_3 (by decide) ?_
  refine Z_invV (T := TX8) (N := 9) (ci := 8) (M' := mX8_readNext) (ρ' := rX8_readNext zN) (st := []) [(0, (-20)), (0, 20)] dX8_readPlace_5 rfl rfl la_2 (z_leN la_2 (by decide)) (by decide) rfl rfl (kX8_readNext.cl (Nat.le_of_ble_eq_true rfl) (Nat.le_refl _) (Nat.le_refl _) (Nat.le_of_ble_eq_true rfl) (Nat.le_of_ble_eq_true rfl) (Nat.le_of_ble_eq_true rfl)) (mlX8_50 rfl) iX8_readNext sX8_readNext h (z_kz (fun r1 σ2 h => ?_))
  refine Z_zif_ne (tgt := 13) dX8_readPlace_8 (by decide) (fun c => ?_) (fun c => ?_)
  · replace h := h.1 c
    refine Z_aload_n 0 dX8_readPlace_13 rfl rfl ?_
    refine Z_aload_n 0 dX8_readPlace_14 rfl rfl ?_
    refine Z_get (T := TX8) (N := 9) (ci := 8) (t := 0) 5 dX8_readPlace_15 la_2 (z_leN la_2 (by decide)) rfl (by decide) inX8 (by decide) (flX8_47 rfl) rfl ?_
    refine Z_put (T := TX8) (N := 9) (ci := 8) (t := 0) tyX8 6 dX8_readPlace_18 la_2 (z_leN la_2 (by decide)) rfl (by decide) inX8 (by decide) (plX8_53 rfl) rfl tyX8_ok nmX8 rfl (z_nf_i _) ?_
    refine Z_aload_n 0 dX8_readPlace_21 rfl rfl ?_
    refine Z_bipush dX8_readPlace_22 (by decide) ?_
    refine Z_bipush dX8_readPlace_24 (by decide) ?_
    refine Z_invV (T := TX8) (N := 9) (ci := 8) (M' := mX8_readNext) (ρ' := rX8_readNext zN) (st := []) [(0, (-20)), (0, 20)] dX8_readPlace_26 rfl rfl la_2 (z_leN la_2 (by decide)) (by decide) rfl rfl (kX8_readNext.cl (Nat.le_of_ble_eq_true rfl) (Nat.le_refl _) (Nat.le_refl _) (Nat.le_of_ble_eq_true rfl) (Nat.le_of_ble_eq_true rfl) (Nat.le_of_ble_eq_true rfl)) (mlX8_50 rfl) iX8_readNext sX8_readNext h (z_kz (fun r3 σ4 h => ?_))
    refine Z_zif_ne (tgt := 34) dX8_readPlace_29 (by decide) (fun c => ?_) (fun c => ?_)
    · replace h := h.1 c
      refine Z_aload_n 0 dX8_readPlace_34 rfl rfl ?_
      refine Z_aload_n 0 dX8_readPlace_35 rfl rfl ?_
      refine Z_get (T := TX8) (N := 9) (ci := 8) (t := 0) 5 dX8_readPlace_36 la_2 (z_leN la_2 (by decide)) rfl (by decide) inX8 (by decide) (flX8_47 rfl) rfl ?_
      refine Z_put (T := TX8) (N := 9) (ci := 8) (t := 0) tyX8 7 dX8_readPlace_39 la_2 (z_leN la_2 (by decide)) rfl (by decide) inX8 (by decide) (plX8_56 rfl) rfl tyX8_ok nmX8 rfl (z_nf_i _) ?_
      refine Z_iconst dX8_readPlace_42 ?_
      exact Z_zreturn dX8_readPlace_43 rfl (Or.inr rfl) rfl ⟨rfl, true, rfl, h⟩
    · replace h := h.2 c
      refine Z_iconst dX8_readPlace_32 ?_
      exact Z_zreturn dX8_readPlace_33 rfl (Or.inl rfl) rfl ⟨rfl, false, rfl, h⟩
  · replace h := h.2 c
    refine Z_iconst dX8_readPlace_11 ?_
    exact Z_zreturn dX8_readPlace_12 rfl (Or.inl rfl) rfl ⟨rfl, false, rfl, h⟩
theorem bk_X8_cut {X : ZS} {σ : ZM} {T : Int → ZM → Prop} {x0 : Int} {x2 : Int} (h : (r32 x2) ∧ ((x2 = 0) → (r32 (Int.bmod x0 256)) ∧ T (Int.bmod x0 256) σ) ∧ ((x2 = 1) → (r32 (Int.bmod x0 65536)) ∧ T (Int.bmod x0 65536) σ) ∧ ((x2 = 2) → (r32 x0) ∧ T x0 σ) ∧ ((x2 < 0 ∨ 2 < x2) → T x0 σ)) : ZC X (rX8_cut zN) mX8_cut [(1, x0), (0, x2)] zN σ (zQl T) := by
  show Z X _ _ 0 [(1, x0), (9, 0), (0, x2)] [] _ σ _
  refine Z_iload_n 2 dX8_cut_0 rfl rfl ?_
  obtain ⟨g1, h⟩ := h
  by_cases c0 : x2 = 0
  · replace h := h.1 c0
    refine Z_tabIn (tgt := 28) dX8_cut_1 g1 0 c0 (by decide) (by decide) rfl (by decide) ?_
    refine Z_lload_n 0 dX8_cut_28 rfl rfl ?_
    refine Z_l2i dX8_cut_29 ?_
    refine Z_i2b dX8_cut_30 ?_
    obtain ⟨g2, h⟩ := h
    refine Z_i2l dX8_cut_31 g2 ?_
    exact Z_lreturn dX8_cut_32 rfl rfl ⟨rfl, h⟩
  replace h := h.2
  by_cases c1 : x2 = 1
  · replace h := h.1 c1
    refine Z_tabIn (tgt := 33) dX8_cut_1 g1 1 c1 (by decide) (by decide) rfl (by decide) ?_
    refine Z_lload_n 0 dX8_cut_33 rfl rfl ?_
    refine Z_l2i dX8_cut_34 ?_
    refine Z_i2s dX8_cut_35 ?_
    obtain ⟨g3, h⟩ := h
    refine Z_i2l dX8_cut_36 g3 ?_
    exact Z_lreturn dX8_cut_37 rfl rfl ⟨rfl, h⟩
  replace h := h.2
  by_cases c2 : x2 = 2
  · replace h := h.1 c2
    refine Z_tabIn (tgt := 38) dX8_cut_1 g1 2 c2 (by decide) (by decide) rfl (by decide) ?_
    refine Z_lload_n 0 dX8_cut_38 rfl rfl ?_
    refine Z_l2i dX8_cut_39 ?_
    obtain ⟨g4, h⟩ := h
    refine Z_i2l dX8_cut_40 g4 ?_
    exact Z_lreturn dX8_cut_41 rfl rfl ⟨rfl, h⟩
  replace h := h.2
  have cO := z_sw2 c0 c1 c2
  replace h := h cO
  refine Z_tabOut (tgt := 42) dX8_cut_1 g1 cO (by decide) ?_
  refine Z_lload_n 0 dX8_cut_42 rfl rfl ?_
  exact Z_lreturn dX8_cut_43 rfl rfl ⟨rfl, h⟩
