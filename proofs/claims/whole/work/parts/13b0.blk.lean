theorem bk_X1_init {X : ZS} {n : Nat} {n1 : Nat} {σ : ZM} {T : ZM → Prop} {p0 : Int} (hp0 : z_l p0 = (1, 4)) (h : (z_l ((n + 1 : Nat) : Int) = (20, 13)) ∧ (n + 1 ≤ n1) ∧ (p0.toNat ≤ (n + 1)) ∧ (z_l (((n + 1) + 1 : Nat) : Int) = (20, 13)) ∧ ((n + 1) + 1 ≤ n1) ∧ (p0.toNat ≤ ((n + 1) + 1)) ∧ (((n + 1) + 1) = n1) ∧ T (z_up (z_new (z_up (z_new σ ((n + 1 : Nat) : Int)) p0 0 ((n + 1 : Nat) : Int)) (((n + 1) + 1 : Nat) : Int)) p0 1 (((n + 1) + 1 : Nat) : Int))) : ZC X (rX1_init n1) mX1_init [(2, p0)] n σ (zQv T) := by
  show Z X _ _ 0 [(2, p0)] [] _ σ _
  refine Z_aload_n 0 dX1_init_0 rfl rfl ?_
  refine Z_objInit dX1_init_1 ((z_l_pos (by rw [hp0]; decide)).1) mlX1_1 ob_i ob_c (Nat.le_of_ble_eq_true rfl) (Nat.le_of_ble_eq_true rfl) (Nat.le_of_ble_eq_true rfl) ?_
  refine Z_aload_n 0 dX1_init_4 rfl rfl ?_
  refine Z_bipush dX1_init_5 (by decide) ?_
  obtain ⟨g1, h⟩ := h
  obtain ⟨g2, h⟩ := h
  refine Z_newI dX1_init_7 ac_int g1 rfl g2 ?_
  obtain ⟨g3, h⟩ := h
  refine Z_put (T := TX1) (N := 4) (ci := 1) (t := 2) tyX1 0 dX1_init_9 hp0 g3 rfl (by decide) inX1 (by decide) (plX1_9 rfl rfl) rfl tyX1_ok nmX1 rfl (z_nf_a _ _) ?_
  refine Z_aload_n 0 dX1_init_12 rfl rfl ?_
  refine Z_bipush dX1_init_13 (by decide) ?_
  obtain ⟨g4, h⟩ := h
  obtain ⟨g5, h⟩ := h
  refine Z_newI dX1_init_15 ac_int g4 rfl g5 ?_
  obtain ⟨g6, h⟩ := h
  refine Z_put (T := TX1) (N := 4) (ci := 1) (t := 2) tyX1 1 dX1_init_17 hp0 g6 rfl (by decide) inX1 (by decide) (plX1_15 rfl rfl) rfl tyX1_ok nmX1 rfl (z_nf_a _ _) ?_
  obtain ⟨g7, h⟩ := h
  exact Z_return dX1_init_20 rfl g7 ⟨rfl, h⟩
theorem bk_X1_divide {X : ZS} {σ : ZM} {T : ZM → Prop} {p0 : Int} (hp0 : z_l p0 = (1, 4)) {p1 : Int} (hp1 : z_l p1 = (9, 3)) {p2 : Int} (hp2 : z_l p2 = (9, 3)) {p3 : Int} (hp3 : z_l p3 = (9, 3)) (h : (r32 (σ p2 1)) ∧ ((2 ≤ (σ p2 1)) → (Fix σ) ∧ (0 ≤ ((σ p2 1) - 1)) ∧ (((σ p2 1) - 1) < 12) ∧ (r32 (σ (p2 + 1) ((σ p2 1) - 1))) ∧ (r64 ((σ (p2 + 1) ((σ p2 1) - 1)) + 1)) ∧ (((σ (p2 + 1) ((σ p2 1) - 1)) + 1) ≠ 0) ∧ (r32 (σ p1 1)) ∧ ZC X (rX1_copyScaled zN) mX1_copyScaled [(2, p0), (2, p1), (2, (p0 + 1)), (0, ((max (σ p1 1) (σ p2 1)) + 1))] zN (z_up (z_up σ p0 2 (σ p2 1)) p0 3 (Int.tdiv 1000000000 ((σ (p2 + 1) ((σ p2 1) - 1)) + 1))) (zQv (fun σ10 => (Fix σ10) ∧ ZC X (rX1_copyScaled zN) mX1_copyScaled [(2, p0), (2, p2), (2, (p0 + 2)), (0, ((σ10 p0 2) + 1))] zN σ10 (zQv (fun σ13 => ZC X (rX9_clear zN) mX9_clear [(2, p3)] zN σ13 (zQv (fun σ15 => Z X (rX1_divide zN) mX1_divide 129 [(2, p0), (9, 0), (9, 0), (2, p3), (0, ((σ p1 1) - (σ p2 1))), (0, ((σ p1 2) * (σ p2 2))), (0, ((σ p1 1) - (σ p2 1))), (9, 0), (9, 0)] [] zN σ15 (zQv T)))))))) ∧ ((¬ (2 ≤ (σ p2 1))) → (Fix σ) ∧ (r32 (σ (p2 + 1) 0)) ∧ ZC X (rX1_divideByPart zN) mX1_divideByPart [(2, p0), (2, p1), (1, (σ (p2 + 1) 0)), (2, p3)] zN (z_up σ p0 2 (σ p2 1)) (zQv (fun σ19 => ZC X (rX9_trim zN) mX9_trim [(2, p3), (0, (σ19 p1 1)), (0, ((σ p1 2) * (σ p2 2)))] zN σ19 (zQv (fun σ21 => T σ21)))))) : ZC X (rX1_divide zN) mX1_divide [(2, p0), (2, p1), (2, p2), (2, p3)] zN σ (zQv T) := by
  show Z X _ _ 0 [(2, p0), (2, p1), (2, p2), (2, p3), (9, 0), (9, 0), (9, 0), (9, 0), (9, 0)] [] _ σ _
  refine Z_aload_n 1 dX1_divide_0 rfl rfl ?_
  refine Z_get (T := TX9) (N := 3) (ci := 9) (t := 0) 1 dX1_divide_1 hp1 (z_leN hp1 (by decide)) rfl (by decide) inX9 (by decide) (flX1_18 rfl) rfl ?_
  refine Z_aload_n 2 dX1_divide_4 rfl rfl ?_
  refine Z_get (T := TX9) (N := 3) (ci := 9) (t := 0) 1 dX1_divide_5 hp2 (z_leN hp2 (by decide)) rfl (by decide) inX9 (by decide) (flX1_18 rfl) rfl ?_
  refine Z_isub dX1_divide_8 ?_
  refine Z_istore (L' := [(2, p0), (2, p1), (2, p2), (2, p3), (0, ((σ p1 1) - (σ p2 1))), (9, 0), (9, 0), (9, 0), (9, 0)]) dX1_divide_9 (Nat.le_of_ble_eq_true rfl) rfl ?_
  refine Z_aload_n 1 dX1_divide_11 rfl rfl ?_
  refine Z_get (T := TX9) (N := 3) (ci := 9) (t := 0) 2 dX1_divide_12 hp1 (z_leN hp1 (by decide)) rfl (by decide) inX9 (by decide) (flX1_22 rfl) rfl ?_
  refine Z_aload_n 2 dX1_divide_15 rfl rfl ?_
  refine Z_get (T := TX9) (N := 3) (ci := 9) (t := 0) 2 dX1_divide_16 hp2 (z_leN hp2 (by decide)) rfl (by decide) inX9 (by decide) (flX1_22 rfl) rfl ?_
  refine Z_imul dX1_divide_19 ?_
  refine Z_istore (L' := [(2, p0), (2, p1), (2, p2), (2, p3), (0, ((σ p1 1) - (σ p2 1))), (0, ((σ p1 2) * (σ p2 2))), (9, 0), (9, 0), (9, 0)]) dX1_divide_20 (Nat.le_of_ble_eq_true rfl) rfl ?_
  refine Z_aload_n 0 dX1_divide_22 rfl rfl ?_
  refine Z_aload_n 2 dX1_divide_23 rfl rfl ?_
  refine Z_get (T := TX9) (N := 3) (ci := 9) (t := 0) 1 dX1_divide_24 hp2 (z_leN hp2 (by decide)) rfl (by decide) inX9 (by decide) (flX1_18 rfl) rfl ?_
  refine Z_put (T := TX1) (N := 4) (ci := 1) (t := 0) tyX1 2 dX1_divide_27 hp0 (z_leN hp0 (by decide)) rfl (by decide) inX1 (by decide) (plX1_25 rfl) rfl tyX1_ok nmX1 rfl (z_nf_i _) ?_
  refine Z_aload_n 0 dX1_divide_30 rfl rfl ?_
  refine Z_get (T := TX1) (N := 4) (ci := 1) (t := 0) 2 dX1_divide_31 hp0 (z_leN hp0 (by decide)) rfl (by decide) inX1 (by decide) (flX1_25 rfl) rfl ?_
  refine Z_top (z_up_same _ _ _ _) ?_
  refine Z_iconst dX1_divide_34 ?_
  obtain ⟨g1, h⟩ := h
  refine Z_icmp_ge (tgt := 62) dX1_divide_35 (by decide) g1 ⟨by decide, by decide⟩ (fun c => ?_) (fun c => ?_)
  · replace h := h.1 c
    refine Z_aload_n 0 dX1_divide_62 rfl rfl ?_
    refine Z_ldc2 (x := 1000000000) dX1_divide_63 ctX1_39 rfl ?_
    refine Z_aload_n 2 dX1_divide_66 rfl rfl ?_
    obtain ⟨g2, h⟩ := h
    refine Z_get (T := TX9) (N := 3) (ci := 9) (t := 2) 0 dX1_divide_67 hp2 (z_leN hp2 (by decide)) rfl (by decide) inX9 (by decide) (flX1_28 rfl) rfl ?_
    refine Z_top (y := (p2 + 1)) (Fix.get (Fix.upF g2 hp0 2 (by decide +kernel)) hp2 0 1 (by decide +kernel)) ?_
    refine Z_aload_n 0 dX1_divide_70 rfl rfl ?_
    refine Z_get (T := TX1) (N := 4) (ci := 1) (t := 0) 2 dX1_divide_71 hp0 (z_leN hp0 (by decide)) rfl (by decide) inX1 (by decide) (flX1_25 rfl) rfl ?_
    refine Z_top (z_up_same _ _ _ _) ?_
    refine Z_iconst dX1_divide_74 ?_
    refine Z_isub dX1_divide_75 ?_
    obtain ⟨g3, h⟩ := h
    obtain ⟨g4, h⟩ := h
    refine Z_iald dX1_divide_76 (zo_9_0 hp2) (z_leN (zo_9_0 hp2) (by decide)) g3 g4 ?_
    refine Z_top (z_up_ne _ (Or.inl (z_nek (zo_9_0 hp2) hp0 (by decide)))) ?_
    obtain ⟨g5, h⟩ := h
    refine Z_i2l dX1_divide_77 g5 ?_
    refine Z_lconst (x := 1) dX1_divide_78 rfl ?_
    refine Z_ladd dX1_divide_79 ?_
    obtain ⟨g6, h⟩ := h
    obtain ⟨g7, h⟩ := h
    refine Z_ldiv dX1_divide_80 ⟨by decide, by decide⟩ g6 g7 ?_
    refine Z_put (T := TX1) (N := 4) (ci := 1) (t := 1) tyX1 3 dX1_divide_81 hp0 (z_leN hp0 (by decide)) rfl (by decide) inX1 (by decide) (plX1_41 rfl) rfl tyX1_ok nmX1 rfl (z_nf_l _) ?_
    refine Z_aload_n 0 dX1_divide_84 rfl rfl ?_
    refine Z_aload_n 1 dX1_divide_85 rfl rfl ?_
    refine Z_aload_n 0 dX1_divide_86 rfl rfl ?_
    refine Z_get (T := TX1) (N := 4) (ci := 1) (t := 2) 0 dX1_divide_87 hp0 (z_leN hp0 (by decide)) rfl (by decide) inX1 (by decide) (flX1_9 rfl) rfl ?_
    refine Z_top (y := (p0 + 1)) (Fix.get (Fix.upF (Fix.upF g2 hp0 2 (by decide +kernel)) hp0 3 (by decide +kernel)) hp0 0 1 (by decide +kernel)) ?_
    refine Z_aload_n 1 dX1_divide_90 rfl rfl ?_
    refine Z_get (T := TX9) (N := 3) (ci := 9) (t := 0) 1 dX1_divide_91 hp1 (z_leN hp1 (by decide)) rfl (by decide) inX9 (by decide) (flX1_18 rfl) rfl ?_
    refine Z_top ((z_up_ne _ (Or.inl (z_nek hp1 hp0 (by decide)))).trans (z_up_ne _ (Or.inl (z_nek hp1 hp0 (by decide))))) ?_
    refine Z_aload_n 0 dX1_divide_94 rfl rfl ?_
    refine Z_get (T := TX1) (N := 4) (ci := 1) (t := 0) 2 dX1_divide_95 hp0 (z_leN hp0 (by decide)) rfl (by decide) inX1 (by decide) (flX1_25 rfl) rfl ?_
    refine Z_top ((z_up_ne _ (Or.inr (by decide))).trans (z_up_same _ _ _ _)) ?_
    obtain ⟨g8, h⟩ := h
    refine Z_jmax dX1_divide_98 (mlX1_45 rfl) g8 g1 (Nat.le_refl _) (Nat.le_of_ble_eq_true rfl) (Nat.le_of_ble_eq_true rfl) (Nat.le_of_ble_eq_true rfl) ?_
    refine Z_iconst dX1_divide_101 ?_
    refine Z_iadd dX1_divide_102 ?_
    refine Z_invV (T := TX1) (N := 4) (ci := 1) (M' := mX1_copyScaled) (ρ' := rX1_copyScaled zN) (st := []) [(2, p1), (2, (p0 + 1)), (0, ((max (σ p1 1) (σ p2 1)) + 1))] dX1_divide_103 rfl rfl hp0 (z_leN hp0 (by decide)) (by decide) rfl rfl (kX1_copyScaled.cl (Nat.le_of_ble_eq_true rfl) (Nat.le_refl _) (Nat.le_refl _) (Nat.le_of_ble_eq_true rfl) (Nat.le_of_ble_eq_true rfl) (Nat.le_of_ble_eq_true rfl)) (mlX1_51 rfl) iX1_copyScaled sX1_copyScaled h (z_kv (fun σ10 h => ?_))
    refine Z_aload_n 0 dX1_divide_106 rfl rfl ?_
    refine Z_aload_n 2 dX1_divide_107 rfl rfl ?_
    refine Z_aload_n 0 dX1_divide_108 rfl rfl ?_
    obtain ⟨g11, h⟩ := h
    refine Z_get (T := TX1) (N := 4) (ci := 1) (t := 2) 1 dX1_divide_109 hp0 (z_leN hp0 (by decide)) rfl (by decide) inX1 (by decide) (flX1_15 rfl) rfl ?_
    refine Z_top (y := (p0 + 2)) (Fix.get g11 hp0 1 2 (by decide +kernel)) ?_
    refine Z_aload_n 0 dX1_divide_112 rfl rfl ?_
    refine Z_get (T := TX1) (N := 4) (ci := 1) (t := 0) 2 dX1_divide_113 hp0 (z_leN hp0 (by decide)) rfl (by decide) inX1 (by decide) (flX1_25 rfl) rfl ?_
    refine Z_iconst dX1_divide_116 ?_
    refine Z_iadd dX1_divide_117 ?_
    refine Z_invV (T := TX1) (N := 4) (ci := 1) (M' := mX1_copyScaled) (ρ' := rX1_copyScaled zN) (st := []) [(2, p2), (2, (p0 + 2)), (0, ((σ10 p0 2) + 1))] dX1_divide_118 rfl rfl hp0 (z_leN hp0 (by decide)) (by decide) rfl rfl (kX1_copyScaled.cl (Nat.le_of_ble_eq_true rfl) (Nat.le_refl _) (Nat.le_refl _) (Nat.le_of_ble_eq_true rfl) (Nat.le_of_ble_eq_true rfl) (Nat.le_of_ble_eq_true rfl)) (mlX1_51 rfl) iX1_copyScaled sX1_copyScaled h (z_kv (fun σ13 h => ?_))
    refine Z_aload_n 3 dX1_divide_121 rfl rfl ?_
    refine Z_invV (T := TX9) (N := 3) (ci := 9) (M' := mX9_clear) (ρ' := rX9_clear zN) (st := []) [] dX1_divide_122 rfl rfl hp3 (z_leN hp3 (by decide)) (by decide) rfl rfl (kX9_clear.cl (Nat.le_of_ble_eq_true rfl) (Nat.le_refl _) (Nat.le_refl _) (Nat.le_of_ble_eq_true rfl) (Nat.le_of_ble_eq_true rfl) (Nat.le_of_ble_eq_true rfl)) (mlX1_55 rfl) iX9_clear sX9_clear h (z_kv (fun σ15 h => ?_))
    refine Z_iload dX1_divide_125 rfl ?_
    refine Z_istore (L' := [(2, p0), (2, p1), (2, p2), (2, p3), (0, ((σ p1 1) - (σ p2 1))), (0, ((σ p1 2) * (σ p2 2))), (0, ((σ p1 1) - (σ p2 1))), (9, 0), (9, 0)]) dX1_divide_127 (Nat.le_of_ble_eq_true rfl) rfl ?_
    exact Z_few (z_few_k (z_few_d (z_few_d (z_few_k (z_few_k (z_few_k (z_few_k (z_few_k (z_few_k z_few_0))))))))) h
  · replace h := h.2 c
    refine Z_aload_n 0 dX1_divide_38 rfl rfl ?_
    refine Z_aload_n 1 dX1_divide_39 rfl rfl ?_
    refine Z_aload_n 2 dX1_divide_40 rfl rfl ?_
    obtain ⟨g16, h⟩ := h
    refine Z_get (T := TX9) (N := 3) (ci := 9) (t := 2) 0 dX1_divide_41 hp2 (z_leN hp2 (by decide)) rfl (by decide) inX9 (by decide) (flX1_28 rfl) rfl ?_
    refine Z_top (y := (p2 + 1)) (Fix.get (Fix.upF g16 hp0 2 (by decide +kernel)) hp2 0 1 (by decide +kernel)) ?_
    refine Z_iconst dX1_divide_44 ?_
    refine Z_iald dX1_divide_45 (zo_9_0 hp2) (z_leN (zo_9_0 hp2) (by decide)) (by decide) (by decide) ?_
    refine Z_top (z_up_ne _ (Or.inl (z_nek (zo_9_0 hp2) hp0 (by decide)))) ?_
    obtain ⟨g17, h⟩ := h
    refine Z_i2l dX1_divide_46 g17 ?_
    refine Z_aload_n 3 dX1_divide_47 rfl rfl ?_
    refine Z_invV (T := TX1) (N := 4) (ci := 1) (M' := mX1_divideByPart) (ρ' := rX1_divideByPart zN) (st := []) [(2, p1), (1, (σ (p2 + 1) 0)), (2, p3)] dX1_divide_48 rfl rfl hp0 (z_leN hp0 (by decide)) (by decide) rfl rfl (kX1_divideByPart.cl (Nat.le_of_ble_eq_true rfl) (Nat.le_refl _) (Nat.le_refl _) (Nat.le_of_ble_eq_true rfl) (Nat.le_of_ble_eq_true rfl) (Nat.le_of_ble_eq_true rfl)) (mlX1_31 rfl) iX1_divideByPart sX1_divideByPart h (z_kv (fun σ19 h => ?_))
    refine Z_aload_n 3 dX1_divide_51 rfl rfl ?_
    refine Z_aload_n 1 dX1_divide_52 rfl rfl ?_
    refine Z_get (T := TX9) (N := 3) (ci := 9) (t := 0) 1 dX1_divide_53 hp1 (z_leN hp1 (by decide)) rfl (by decide) inX9 (by decide) (flX1_18 rfl) rfl ?_
    refine Z_iload dX1_divide_56 rfl ?_
    refine Z_invV (T := TX9) (N := 3) (ci := 9) (M' := mX9_trim) (ρ' := rX9_trim zN) (st := []) [(0, (σ19 p1 1)), (0, ((σ p1 2) * (σ p2 2)))] dX1_divide_58 rfl rfl hp3 (z_leN hp3 (by decide)) (by decide) rfl rfl (kX9_trim.cl (Nat.le_of_ble_eq_true rfl) (Nat.le_refl _) (Nat.le_refl _) (Nat.le_of_ble_eq_true rfl) (Nat.le_of_ble_eq_true rfl) (Nat.le_of_ble_eq_true rfl)) (mlX1_35 rfl) iX9_trim sX9_trim h (z_kv (fun σ21 h => ?_))
    exact Z_return dX1_divide_61 rfl rfl ⟨rfl, h⟩
theorem bk_X1_divide_129 {X : ZS} {σ : ZM} {T : ZM → Prop} {p0 : Int} (hp0 : z_l p0 = (1, 4)) {p3 : Int} (hp3 : z_l p3 = (9, 3)) {x4 : Int} {x5 : Int} {x6 : Int} (h : (r32 x6) ∧ ((x6 < 0) → ZC X (rX9_trim zN) mX9_trim [(2, p3), (0, (x4 + 1)), (0, x5)] zN σ (zQv (fun σ3 => T σ3))) ∧ ((¬ (x6 < 0)) → ZC X (rX1_guessPart zN) mX1_guessPart [(2, p0), (0, x6)] zN σ (zQl (fun r4 σ5 => ZC X (rX1_takeAway zN) mX1_takeAway [(2, p0), (0, x6), (1, r4)] zN σ5 (zQz (fun r6 σ7 => ((r6 = false) → (Fix σ7) ∧ (0 ≤ x6) ∧ (x6 < 12) ∧ Z X (rX1_divide zN) mX1_divide 129 [(2, p0), (9, 0), (9, 0), (2, p3), (0, x4), (0, x5), (0, (x6 + (-1))), (9, 0), (9, 0)] [] zN (z_up σ7 (p3 + 1) x6 r4) (zQv T)) ∧ ((r6 = true) → ZC X (rX1_giveBack zN) mX1_giveBack [(2, p0), (0, x6)] zN σ7 (zQv (fun σ12 => (Fix σ12) ∧ (0 ≤ x6) ∧ (x6 < 12) ∧ Z X (rX1_divide zN) mX1_divide 129 [(2, p0), (9, 0), (9, 0), (2, p3), (0, x4), (0, x5), (0, (x6 + (-1))), (9, 0), (9, 0)] [] zN (z_up σ12 (p3 + 1) x6 (r4 - 1)) (zQv T)))))))))) : Z X (rX1_divide zN) mX1_divide 129 [(2, p0), (9, 0), (9, 0), (2, p3), (0, x4), (0, x5), (0, x6), (9, 0), (9, 0)] [] zN σ (zQv T) := by
  refine Z_iload dX1_divide_129 rfl ?_
  obtain ⟨g1, h⟩ := h
  refine Z_if_lt (tgt := 181) dX1_divide_131 (by decide) g1 (fun c => ?_) (fun c => ?_)
  · replace h := h.1 c
    refine Z_aload_n 3 dX1_divide_181 rfl rfl ?_
    refine Z_iload dX1_divide_182 rfl ?_
    refine Z_iconst dX1_divide_184 ?_
    refine Z_iadd dX1_divide_185 ?_
    refine Z_iload dX1_divide_186 rfl ?_
    refine Z_invV (T := TX9) (N := 3) (ci := 9) (M' := mX9_trim) (ρ' := rX9_trim zN) (st := []) [(0, (x4 + 1)), (0, x5)] dX1_divide_188 rfl rfl hp3 (z_leN hp3 (by decide)) (by decide) rfl rfl (kX9_trim.cl (Nat.le_of_ble_eq_true rfl) (Nat.le_refl _) (Nat.le_refl _) (Nat.le_of_ble_eq_true rfl) (Nat.le_of_ble_eq_true rfl) (Nat.le_of_ble_eq_true rfl)) (mlX1_35 rfl) iX9_trim sX9_trim h (z_kv (fun σ3 h => ?_))
    exact Z_return dX1_divide_191 rfl rfl ⟨rfl, h⟩
  · replace h := h.2 c
    refine Z_aload_n 0 dX1_divide_134 rfl rfl ?_
    refine Z_iload dX1_divide_135 rfl ?_
    refine Z_invV (T := TX1) (N := 4) (ci := 1) (M' := mX1_guessPart) (ρ' := rX1_guessPart zN) (st := []) [(0, x6)] dX1_divide_137 rfl rfl hp0 (z_leN hp0 (by decide)) (by decide) rfl rfl (kX1_guessPart.cl (Nat.le_of_ble_eq_true rfl) (Nat.le_refl _) (Nat.le_refl _) (Nat.le_of_ble_eq_true rfl) (Nat.le_of_ble_eq_true rfl) (Nat.le_of_ble_eq_true rfl)) (mlX1_58 rfl) iX1_guessPart sX1_guessPart h (z_kl (fun r4 σ5 h => ?_))
    refine Z_lstore (L' := [(2, p0), (9, 0), (9, 0), (2, p3), (0, x4), (0, x5), (0, x6), (1, r4), (9, 0)]) dX1_divide_140 (Nat.le_of_ble_eq_true rfl) rfl ?_
    refine Z_aload_n 0 dX1_divide_142 rfl rfl ?_
    refine Z_iload dX1_divide_143 rfl ?_
    refine Z_lload dX1_divide_145 rfl ?_
    refine Z_invV (T := TX1) (N := 4) (ci := 1) (M' := mX1_takeAway) (ρ' := rX1_takeAway zN) (st := []) [(0, x6), (1, r4)] dX1_divide_147 rfl rfl hp0 (z_leN hp0 (by decide)) (by decide) rfl rfl (kX1_takeAway.cl (Nat.le_of_ble_eq_true rfl) (Nat.le_refl _) (Nat.le_refl _) (Nat.le_of_ble_eq_true rfl) (Nat.le_of_ble_eq_true rfl) (Nat.le_of_ble_eq_true rfl)) (mlX1_62 rfl) iX1_takeAway sX1_takeAway h (z_kz (fun r6 σ7 h => ?_))
    refine Z_zif_eq (tgt := 165) dX1_divide_150 (by decide) (fun c => ?_) (fun c => ?_)
    · replace h := h.1 c
      refine Z_aload_n 3 dX1_divide_165 rfl rfl ?_
      obtain ⟨g8, h⟩ := h
      refine Z_get (T := TX9) (N := 3) (ci := 9) (t := 2) 0 dX1_divide_166 hp3 (z_leN hp3 (by decide)) rfl (by decide) inX9 (by decide) (flX1_28 rfl) rfl ?_
      refine Z_top (y := (p3 + 1)) (Fix.get g8 hp3 0 1 (by decide +kernel)) ?_
      refine Z_iload dX1_divide_169 rfl ?_
      refine Z_lload dX1_divide_171 rfl ?_
      refine Z_l2i dX1_divide_173 ?_
      obtain ⟨g9, h⟩ := h
      obtain ⟨g10, h⟩ := h
      refine Z_iast dX1_divide_174 (zo_9_0 hp3) (z_leN (zo_9_0 hp3) (by decide)) g9 g10 ?_
      refine Z_iinc (L' := [(2, p0), (9, 0), (9, 0), (2, p3), (0, x4), (0, x5), (0, (x6 + (-1))), (1, r4), (9, 0)]) dX1_divide_175 rfl (Nat.le_of_ble_eq_true rfl) rfl ?_
      refine Z_goto (tgt := 129) dX1_divide_178 (by decide) ?_
      exact Z_few (z_few_k (z_few_k (z_few_k (z_few_k (z_few_k (z_few_k (z_few_k (z_few_d (z_few_k z_few_0))))))))) h
    · replace h := h.2 c
      refine Z_lload dX1_divide_153 rfl ?_
      refine Z_lconst (x := 1) dX1_divide_155 rfl ?_
      refine Z_lsub dX1_divide_156 ?_
      refine Z_lstore (L' := [(2, p0), (9, 0), (9, 0), (2, p3), (0, x4), (0, x5), (0, x6), (1, (r4 - 1)), (9, 0)]) dX1_divide_157 (Nat.le_of_ble_eq_true rfl) rfl ?_
      refine Z_aload_n 0 dX1_divide_159 rfl rfl ?_
      refine Z_iload dX1_divide_160 rfl ?_
      refine Z_invV (T := TX1) (N := 4) (ci := 1) (M' := mX1_giveBack) (ρ' := rX1_giveBack zN) (st := []) [(0, x6)] dX1_divide_162 rfl rfl hp0 (z_leN hp0 (by decide)) (by decide) rfl rfl (kX1_giveBack.cl (Nat.le_of_ble_eq_true rfl) (Nat.le_refl _) (Nat.le_refl _) (Nat.le_of_ble_eq_true rfl) (Nat.le_of_ble_eq_true rfl) (Nat.le_of_ble_eq_true rfl)) (mlX1_66 rfl) iX1_giveBack sX1_giveBack h (z_kv (fun σ12 h => ?_))
      refine Z_aload_n 3 dX1_divide_165 rfl rfl ?_
      obtain ⟨g13, h⟩ := h
      refine Z_get (T := TX9) (N := 3) (ci := 9) (t := 2) 0 dX1_divide_166 hp3 (z_leN hp3 (by decide)) rfl (by decide) inX9 (by decide) (flX1_28 rfl) rfl ?_
      refine Z_top (y := (p3 + 1)) (Fix.get g13 hp3 0 1 (by decide +kernel)) ?_
      refine Z_iload dX1_divide_169 rfl ?_
      refine Z_lload dX1_divide_171 rfl ?_
      refine Z_l2i dX1_divide_173 ?_
      obtain ⟨g14, h⟩ := h
      obtain ⟨g15, h⟩ := h
      refine Z_iast dX1_divide_174 (zo_9_0 hp3) (z_leN (zo_9_0 hp3) (by decide)) g14 g15 ?_
      refine Z_iinc (L' := [(2, p0), (9, 0), (9, 0), (2, p3), (0, x4), (0, x5), (0, (x6 + (-1))), (1, (r4 - 1)), (9, 0)]) dX1_divide_175 rfl (Nat.le_of_ble_eq_true rfl) rfl ?_
      refine Z_goto (tgt := 129) dX1_divide_178 (by decide) ?_
      exact Z_few (z_few_k (z_few_k (z_few_k (z_few_k (z_few_k (z_few_k (z_few_k (z_few_d (z_few_k z_few_0))))))))) h
theorem bk_X1_takeRest {X : ZS} {σ : ZM} {T : ZM → Prop} {p0 : Int} (hp0 : z_l p0 = (1, 4)) {p1 : Int} (hp1 : z_l p1 = (9, 3)) (h : ZC X (rX9_clear zN) mX9_clear [(2, p1)] zN σ (zQv (fun σ2 => Z X (rX1_takeRest zN) mX1_takeRest 14 [(2, p0), (2, p1), (1, 0), (9, 0), (0, ((σ2 p0 2) - 1)), (9, 0), (9, 0), (9, 0), (9, 0)] [] zN σ2 (zQv T)))) : ZC X (rX1_takeRest zN) mX1_takeRest [(2, p0), (2, p1)] zN σ (zQv T) := by
  show Z X _ _ 0 [(2, p0), (2, p1), (9, 0), (9, 0), (9, 0), (9, 0), (9, 0), (9, 0), (9, 0)] [] _ σ _
  refine Z_aload_n 1 dX1_takeRest_0 rfl rfl ?_
  refine Z_invV (T := TX9) (N := 3) (ci := 9) (M' := mX9_clear) (ρ' := rX9_clear zN) (st := []) [] dX1_takeRest_1 rfl rfl hp1 (z_leN hp1 (by decide)) (by decide) rfl rfl (kX9_clear.cl (Nat.le_of_ble_eq_true rfl) (Nat.le_refl _) (Nat.le_refl _) (Nat.le_of_ble_eq_true rfl) (Nat.le_of_ble_eq_true rfl) (Nat.le_of_ble_eq_true rfl)) (mlX1_55 rfl) iX9_clear sX9_clear h (z_kv (fun σ2 h => ?_))
  refine Z_lconst (x := 0) dX1_takeRest_4 rfl ?_
  refine Z_lstore_n (L' := [(2, p0), (2, p1), (1, 0), (9, 0), (9, 0), (9, 0), (9, 0), (9, 0), (9, 0)]) 2 dX1_takeRest_5 rfl (Nat.le_of_ble_eq_true rfl) rfl ?_
  refine Z_aload_n 0 dX1_takeRest_6 rfl rfl ?_
  refine Z_get (T := TX1) (N := 4) (ci := 1) (t := 0) 2 dX1_takeRest_7 hp0 (z_leN hp0 (by decide)) rfl (by decide) inX1 (by decide) (flX1_25 rfl) rfl ?_
  refine Z_iconst dX1_takeRest_10 ?_
  refine Z_isub dX1_takeRest_11 ?_
  refine Z_istore (L' := [(2, p0), (2, p1), (1, 0), (9, 0), (0, ((σ2 p0 2) - 1)), (9, 0), (9, 0), (9, 0), (9, 0)]) dX1_takeRest_12 (Nat.le_of_ble_eq_true rfl) rfl ?_
  exact Z_few (z_few_k (z_few_k (z_few_k (z_few_k (z_few_k (z_few_k (z_few_k (z_few_k (z_few_k z_few_0))))))))) h
theorem bk_X1_takeRest_14 {X : ZS} {σ : ZM} {T : ZM → Prop} {p0 : Int} (hp0 : z_l p0 = (1, 4)) {p1 : Int} (hp1 : z_l p1 = (9, 3)) {x2 : Int} {x4 : Int} (h : (r32 x4) ∧ ((x4 < 0) → ZC X (rX9_trim zN) mX9_trim [(2, p1), (0, (σ p0 2)), (0, 1)] zN σ (zQv (fun σ3 => T σ3))) ∧ ((¬ (x4 < 0)) → (r64 (σ p0 3)) ∧ (((σ p0 3) ≤ 0) → ZC X (rX9_trim zN) mX9_trim [(2, p1), (0, (σ p0 2)), (0, 1)] zN σ (zQv (fun σ6 => T σ6))) ∧ ((¬ ((σ p0 3) ≤ 0)) → (Fix σ) ∧ (0 ≤ x4) ∧ (x4 < 13) ∧ (r32 (σ (p0 + 1) x4)) ∧ (r64 ((x2 * 1000000000) + (σ (p0 + 1) x4))) ∧ ((σ p0 3) ≠ 0) ∧ (x4 < 12) ∧ Z X (rX1_takeRest zN) mX1_takeRest 14 [(2, p0), (2, p1), (1, (((x2 * 1000000000) + (σ (p0 + 1) x4)) - ((Int.tdiv ((x2 * 1000000000) + (σ (p0 + 1) x4)) (σ p0 3)) * (σ p0 3)))), (9, 0), (0, (x4 + (-1))), (9, 0), (9, 0), (9, 0), (9, 0)] [] zN (z_up σ (p1 + 1) x4 (Int.tdiv ((x2 * 1000000000) + (σ (p0 + 1) x4)) (σ p0 3))) (zQv T)))) : Z X (rX1_takeRest zN) mX1_takeRest 14 [(2, p0), (2, p1), (1, x2), (9, 0), (0, x4), (9, 0), (9, 0), (9, 0), (9, 0)] [] zN σ (zQv T) := by
  refine Z_iload dX1_takeRest_14 rfl ?_
  obtain ⟨g1, h⟩ := h
  refine Z_if_lt (tgt := 80) dX1_takeRest_16 (by decide) g1 (fun c => ?_) (fun c => ?_)
  · replace h := h.1 c
    refine Z_aload_n 1 dX1_takeRest_80 rfl rfl ?_
    refine Z_aload_n 0 dX1_takeRest_81 rfl rfl ?_
    refine Z_get (T := TX1) (N := 4) (ci := 1) (t := 0) 2 dX1_takeRest_82 hp0 (z_leN hp0 (by decide)) rfl (by decide) inX1 (by decide) (flX1_25 rfl) rfl ?_
    refine Z_iconst dX1_takeRest_85 ?_
    refine Z_invV (T := TX9) (N := 3) (ci := 9) (M' := mX9_trim) (ρ' := rX9_trim zN) (st := []) [(0, (σ p0 2)), (0, 1)] dX1_takeRest_86 rfl rfl hp1 (z_leN hp1 (by decide)) (by decide) rfl rfl (kX9_trim.cl (Nat.le_of_ble_eq_true rfl) (Nat.le_refl _) (Nat.le_refl _) (Nat.le_of_ble_eq_true rfl) (Nat.le_of_ble_eq_true rfl) (Nat.le_of_ble_eq_true rfl)) (mlX1_35 rfl) iX9_trim sX9_trim h (z_kv (fun σ3 h => ?_))
    exact Z_return dX1_takeRest_89 rfl rfl ⟨rfl, h⟩
  · replace h := h.2 c
    refine Z_aload_n 0 dX1_takeRest_19 rfl rfl ?_
    refine Z_get (T := TX1) (N := 4) (ci := 1) (t := 1) 3 dX1_takeRest_20 hp0 (z_leN hp0 (by decide)) rfl (by decide) inX1 (by decide) (flX1_41 rfl) rfl ?_
    refine Z_lconst (x := 0) dX1_takeRest_23 rfl ?_
    obtain ⟨g4, h⟩ := h
    refine Z_lc_le (tgt := 80) dX1_takeRest_24 dX1_takeRest_25 (by decide) g4 ⟨by decide, by decide⟩ (fun c => ?_) (fun c => ?_)
    · replace h := h.1 c
      refine Z_aload_n 1 dX1_takeRest_80 rfl rfl ?_
      refine Z_aload_n 0 dX1_takeRest_81 rfl rfl ?_
      refine Z_get (T := TX1) (N := 4) (ci := 1) (t := 0) 2 dX1_takeRest_82 hp0 (z_leN hp0 (by decide)) rfl (by decide) inX1 (by decide) (flX1_25 rfl) rfl ?_
      refine Z_iconst dX1_takeRest_85 ?_
      refine Z_invV (T := TX9) (N := 3) (ci := 9) (M' := mX9_trim) (ρ' := rX9_trim zN) (st := []) [(0, (σ p0 2)), (0, 1)] dX1_takeRest_86 rfl rfl hp1 (z_leN hp1 (by decide)) (by decide) rfl rfl (kX9_trim.cl (Nat.le_of_ble_eq_true rfl) (Nat.le_refl _) (Nat.le_refl _) (Nat.le_of_ble_eq_true rfl) (Nat.le_of_ble_eq_true rfl) (Nat.le_of_ble_eq_true rfl)) (mlX1_35 rfl) iX9_trim sX9_trim h (z_kv (fun σ6 h => ?_))
      exact Z_return dX1_takeRest_89 rfl rfl ⟨rfl, h⟩
    · replace h := h.2 c
      refine Z_lload_n 2 dX1_takeRest_28 rfl rfl ?_
      refine Z_ldc2 (x := 1000000000) dX1_takeRest_29 ctX1_39 rfl ?_
      refine Z_lmul dX1_takeRest_32 ?_
      refine Z_aload_n 0 dX1_takeRest_33 rfl rfl ?_
      obtain ⟨g7, h⟩ := h
      refine Z_get (T := TX1) (N := 4) (ci := 1) (t := 2) 0 dX1_takeRest_34 hp0 (z_leN hp0 (by decide)) rfl (by decide) inX1 (by decide) (flX1_9 rfl) rfl ?_
      refine Z_top (y := (p0 + 1)) (Fix.get g7 hp0 0 1 (by decide +kernel)) ?_
      refine Z_iload dX1_takeRest_37 rfl ?_
      obtain ⟨g8, h⟩ := h
      obtain ⟨g9, h⟩ := h
      refine Z_iald dX1_takeRest_39 (zo_1_0 hp0) (z_leN (zo_1_0 hp0) (by decide)) g8 g9 ?_
      obtain ⟨g10, h⟩ := h
      refine Z_i2l dX1_takeRest_40 g10 ?_
      refine Z_ladd dX1_takeRest_41 ?_
      refine Z_lstore (L' := [(2, p0), (2, p1), (1, x2), (9, 0), (0, x4), (1, ((x2 * 1000000000) + (σ (p0 + 1) x4))), (9, 0), (9, 0), (9, 0)]) dX1_takeRest_42 (Nat.le_of_ble_eq_true rfl) rfl ?_
      refine Z_lload dX1_takeRest_44 rfl ?_
      refine Z_aload_n 0 dX1_takeRest_46 rfl rfl ?_
      refine Z_get (T := TX1) (N := 4) (ci := 1) (t := 1) 3 dX1_takeRest_47 hp0 (z_leN hp0 (by decide)) rfl (by decide) inX1 (by decide) (flX1_41 rfl) rfl ?_
      obtain ⟨g11, h⟩ := h
      obtain ⟨g12, h⟩ := h
      refine Z_ldiv dX1_takeRest_50 g11 g4 g12 ?_
      refine Z_lstore (L' := [(2, p0), (2, p1), (1, x2), (9, 0), (0, x4), (1, ((x2 * 1000000000) + (σ (p0 + 1) x4))), (9, 0), (1, (Int.tdiv ((x2 * 1000000000) + (σ (p0 + 1) x4)) (σ p0 3))), (9, 0)]) dX1_takeRest_51 (Nat.le_of_ble_eq_true rfl) rfl ?_
      refine Z_aload_n 1 dX1_takeRest_53 rfl rfl ?_
      refine Z_get (T := TX9) (N := 3) (ci := 9) (t := 2) 0 dX1_takeRest_54 hp1 (z_leN hp1 (by decide)) rfl (by decide) inX9 (by decide) (flX1_28 rfl) rfl ?_
      refine Z_top (y := (p1 + 1)) (Fix.get g7 hp1 0 1 (by decide +kernel)) ?_
      refine Z_iload dX1_takeRest_57 rfl ?_
      refine Z_lload dX1_takeRest_59 rfl ?_
      refine Z_l2i dX1_takeRest_61 ?_
      obtain ⟨g13, h⟩ := h
      refine Z_iast dX1_takeRest_62 (zo_9_0 hp1) (z_leN (zo_9_0 hp1) (by decide)) g8 g13 ?_
      refine Z_lload dX1_takeRest_63 rfl ?_
      refine Z_lload dX1_takeRest_65 rfl ?_
      refine Z_aload_n 0 dX1_takeRest_67 rfl rfl ?_
      refine Z_get (T := TX1) (N := 4) (ci := 1) (t := 1) 3 dX1_takeRest_68 hp0 (z_leN hp0 (by decide)) rfl (by decide) inX1 (by decide) (flX1_41 rfl) rfl ?_
      refine Z_top (z_up_ne _ (Or.inl (z_nek hp0 (zo_9_0 hp1) (by decide)))) ?_
      refine Z_lmul dX1_takeRest_71 ?_
      refine Z_lsub dX1_takeRest_72 ?_
      refine Z_lstore_n (L' := [(2, p0), (2, p1), (1, (((x2 * 1000000000) + (σ (p0 + 1) x4)) - ((Int.tdiv ((x2 * 1000000000) + (σ (p0 + 1) x4)) (σ p0 3)) * (σ p0 3)))), (9, 0), (0, x4), (1, ((x2 * 1000000000) + (σ (p0 + 1) x4))), (9, 0), (1, (Int.tdiv ((x2 * 1000000000) + (σ (p0 + 1) x4)) (σ p0 3))), (9, 0)]) 2 dX1_takeRest_73 rfl (Nat.le_of_ble_eq_true rfl) rfl ?_
      refine Z_iinc (L' := [(2, p0), (2, p1), (1, (((x2 * 1000000000) + (σ (p0 + 1) x4)) - ((Int.tdiv ((x2 * 1000000000) + (σ (p0 + 1) x4)) (σ p0 3)) * (σ p0 3)))), (9, 0), (0, (x4 + (-1))), (1, ((x2 * 1000000000) + (σ (p0 + 1) x4))), (9, 0), (1, (Int.tdiv ((x2 * 1000000000) + (σ (p0 + 1) x4)) (σ p0 3))), (9, 0)]) dX1_takeRest_74 rfl (Nat.le_of_ble_eq_true rfl) rfl ?_
      refine Z_goto (tgt := 14) dX1_takeRest_77 (by decide) ?_
      exact Z_few (z_few_k (z_few_k (z_few_k (z_few_k (z_few_k (z_few_d (z_few_k (z_few_d (z_few_k z_few_0))))))))) h
theorem bk_X1_divideByPart {X : ZS} {σ : ZM} {T : ZM → Prop} {p0 : Int} (hp0 : z_l p0 = (1, 4)) {p1 : Int} (hp1 : z_l p1 = (9, 3)) {x2 : Int} {p4 : Int} (hp4 : z_l p4 = (9, 3)) (h : (r32 (σ p1 1)) ∧ (r32 (σ p4 1)) ∧ Z X (rX1_divideByPart zN) mX1_divideByPart 19 [(2, p0), (2, p1), (1, x2), (9, 0), (2, p4), (1, 0), (9, 0), (0, ((max (σ p1 1) (σ p4 1)) - 1)), (9, 0), (9, 0), (9, 0), (9, 0)] [] zN σ (zQv T)) : ZC X (rX1_divideByPart zN) mX1_divideByPart [(2, p0), (2, p1), (1, x2), (2, p4)] zN σ (zQv T) := by
  show Z X _ _ 0 [(2, p0), (2, p1), (1, x2), (9, 0), (2, p4), (9, 0), (9, 0), (9, 0), (9, 0), (9, 0), (9, 0), (9, 0)] [] _ σ _
  refine Z_lconst (x := 0) dX1_divideByPart_0 rfl ?_
  refine Z_lstore (L' := [(2, p0), (2, p1), (1, x2), (9, 0), (2, p4), (1, 0), (9, 0), (9, 0), (9, 0), (9, 0), (9, 0), (9, 0)]) dX1_divideByPart_1 (Nat.le_of_ble_eq_true rfl) rfl ?_
  refine Z_aload_n 1 dX1_divideByPart_3 rfl rfl ?_
  refine Z_get (T := TX9) (N := 3) (ci := 9) (t := 0) 1 dX1_divideByPart_4 hp1 (z_leN hp1 (by decide)) rfl (by decide) inX9 (by decide) (flX1_18 rfl) rfl ?_
  refine Z_aload dX1_divideByPart_7 rfl ?_
  refine Z_get (T := TX9) (N := 3) (ci := 9) (t := 0) 1 dX1_divideByPart_9 hp4 (z_leN hp4 (by decide)) rfl (by decide) inX9 (by decide) (flX1_18 rfl) rfl ?_
  obtain ⟨g1, h⟩ := h
  obtain ⟨g2, h⟩ := h
  refine Z_jmax dX1_divideByPart_12 (mlX1_45 rfl) g1 g2 (Nat.le_refl _) (Nat.le_of_ble_eq_true rfl) (Nat.le_of_ble_eq_true rfl) (Nat.le_of_ble_eq_true rfl) ?_
  refine Z_iconst dX1_divideByPart_15 ?_
  refine Z_isub dX1_divideByPart_16 ?_
  refine Z_istore (L' := [(2, p0), (2, p1), (1, x2), (9, 0), (2, p4), (1, 0), (9, 0), (0, ((max (σ p1 1) (σ p4 1)) - 1)), (9, 0), (9, 0), (9, 0), (9, 0)]) dX1_divideByPart_17 (Nat.le_of_ble_eq_true rfl) rfl ?_
  exact Z_few (z_few_k (z_few_k (z_few_k (z_few_k (z_few_k (z_few_k (z_few_k (z_few_k (z_few_k (z_few_k (z_few_k (z_few_k z_few_0)))))))))))) h
theorem bk_X1_divideByPart_19 {X : ZS} {σ : ZM} {T : ZM → Prop} {p0 : Int} (hp0 : z_l p0 = (1, 4)) {p1 : Int} (hp1 : z_l p1 = (9, 3)) {x2 : Int} {p4 : Int} (hp4 : z_l p4 = (9, 3)) {x5 : Int} {x7 : Int} (h : (r32 x7) ∧ ((x7 < 0) → (Fix σ) ∧ T (z_up (z_up σ p0 3 1) (p0 + 1) 0 x5)) ∧ ((¬ (x7 < 0)) → (Fix σ) ∧ (0 ≤ x7) ∧ (x7 < 12) ∧ (r32 (σ (p1 + 1) x7)) ∧ (r64 x2) ∧ ((x2 ≤ 0) → ((x2 ≤ 0) → Z X (rX1_divideByPart zN) mX1_divideByPart 19 [(2, p0), (2, p1), (1, x2), (9, 0), (2, p4), (1, 0), (9, 0), (0, (x7 + (-1))), (9, 0), (9, 0), (9, 0), (9, 0)] [] zN (z_up σ (p4 + 1) x7 0) (zQv T)) ∧ ((¬ (x2 ≤ 0)) → Z X (rX1_divideByPart zN) mX1_divideByPart 19 [(2, p0), (2, p1), (1, x2), (9, 0), (2, p4), (1, (((x5 * 1000000000) + (σ (p1 + 1) x7)) - (0 * x2))), (9, 0), (0, (x7 + (-1))), (9, 0), (9, 0), (9, 0), (9, 0)] [] zN (z_up σ (p4 + 1) x7 0) (zQv T))) ∧ ((¬ (x2 ≤ 0)) → (r64 ((x5 * 1000000000) + (σ (p1 + 1) x7))) ∧ (x2 ≠ 0) ∧ ((x2 ≤ 0) → Z X (rX1_divideByPart zN) mX1_divideByPart 19 [(2, p0), (2, p1), (1, x2), (9, 0), (2, p4), (1, 0), (9, 0), (0, (x7 + (-1))), (9, 0), (9, 0), (9, 0), (9, 0)] [] zN (z_up σ (p4 + 1) x7 (Int.tdiv ((x5 * 1000000000) + (σ (p1 + 1) x7)) x2)) (zQv T)) ∧ ((¬ (x2 ≤ 0)) → Z X (rX1_divideByPart zN) mX1_divideByPart 19 [(2, p0), (2, p1), (1, x2), (9, 0), (2, p4), (1, (((x5 * 1000000000) + (σ (p1 + 1) x7)) - ((Int.tdiv ((x5 * 1000000000) + (σ (p1 + 1) x7)) x2) * x2))), (9, 0), (0, (x7 + (-1))), (9, 0), (9, 0), (9, 0), (9, 0)] [] zN (z_up σ (p4 + 1) x7 (Int.tdiv ((x5 * 1000000000) + (σ (p1 + 1) x7)) x2)) (zQv T))))) : Z X (rX1_divideByPart zN) mX1_divideByPart 19 [(2, p0), (2, p1), (1, x2), (9, 0), (2, p4), (1, x5), (9, 0), (0, x7), (9, 0), (9, 0), (9, 0), (9, 0)] [] zN σ (zQv T) := by
  refine Z_iload dX1_divideByPart_19 rfl ?_
  obtain ⟨g1, h⟩ := h
  refine Z_if_lt (tgt := 93) dX1_divideByPart_21 (by decide) g1 (fun c => ?_) (fun c => ?_)
  · replace h := h.1 c
    refine Z_aload_n 0 dX1_divideByPart_93 rfl rfl ?_
    refine Z_lconst (x := 1) dX1_divideByPart_94 rfl ?_
    refine Z_put (T := TX1) (N := 4) (ci := 1) (t := 1) tyX1 3 dX1_divideByPart_95 hp0 (z_leN hp0 (by decide)) rfl (by decide) inX1 (by decide) (plX1_41 rfl) rfl tyX1_ok nmX1 rfl (z_nf_l _) ?_
    refine Z_aload_n 0 dX1_divideByPart_98 rfl rfl ?_
    obtain ⟨g2, h⟩ := h
    refine Z_get (T := TX1) (N := 4) (ci := 1) (t := 2) 0 dX1_divideByPart_99 hp0 (z_leN hp0 (by decide)) rfl (by decide) inX1 (by decide) (flX1_9 rfl) rfl ?_
    refine Z_top (y := (p0 + 1)) (Fix.get (Fix.upF g2 hp0 3 (by decide +kernel)) hp0 0 1 (by decide +kernel)) ?_
    refine Z_iconst dX1_divideByPart_102 ?_
    refine Z_lload dX1_divideByPart_103 rfl ?_
    refine Z_l2i dX1_divideByPart_105 ?_
    refine Z_iast dX1_divideByPart_106 (zo_1_0 hp0) (z_leN (zo_1_0 hp0) (by decide)) (by decide) (by decide) ?_
    exact Z_return dX1_divideByPart_107 rfl rfl ⟨rfl, h⟩
  · replace h := h.2 c
    refine Z_lload dX1_divideByPart_24 rfl ?_
    refine Z_ldc2 (x := 1000000000) dX1_divideByPart_26 ctX1_39 rfl ?_
    refine Z_lmul dX1_divideByPart_29 ?_
    refine Z_aload_n 1 dX1_divideByPart_30 rfl rfl ?_
    obtain ⟨g3, h⟩ := h
    refine Z_get (T := TX9) (N := 3) (ci := 9) (t := 2) 0 dX1_divideByPart_31 hp1 (z_leN hp1 (by decide)) rfl (by decide) inX9 (by decide) (flX1_28 rfl) rfl ?_
    refine Z_top (y := (p1 + 1)) (Fix.get g3 hp1 0 1 (by decide +kernel)) ?_
    refine Z_iload dX1_divideByPart_34 rfl ?_
    obtain ⟨g4, h⟩ := h
    obtain ⟨g5, h⟩ := h
    refine Z_iald dX1_divideByPart_36 (zo_9_0 hp1) (z_leN (zo_9_0 hp1) (by decide)) g4 g5 ?_
    obtain ⟨g6, h⟩ := h
    refine Z_i2l dX1_divideByPart_37 g6 ?_
    refine Z_ladd dX1_divideByPart_38 ?_
    refine Z_lstore (L' := [(2, p0), (2, p1), (1, x2), (9, 0), (2, p4), (1, x5), (9, 0), (0, x7), (1, ((x5 * 1000000000) + (σ (p1 + 1) x7))), (9, 0), (9, 0), (9, 0)]) dX1_divideByPart_39 (Nat.le_of_ble_eq_true rfl) rfl ?_
    refine Z_lload_n 2 dX1_divideByPart_41 rfl rfl ?_
    refine Z_lconst (x := 0) dX1_divideByPart_42 rfl ?_
    obtain ⟨g7, h⟩ := h
    refine Z_lc_le (tgt := 54) dX1_divideByPart_43 dX1_divideByPart_44 (by decide) g7 ⟨by decide, by decide⟩ (fun c => ?_) (fun c => ?_)
    · replace h := h.1 c
      refine Z_lconst (x := 0) dX1_divideByPart_54 rfl ?_
      refine Z_lstore (L' := [(2, p0), (2, p1), (1, x2), (9, 0), (2, p4), (1, x5), (9, 0), (0, x7), (1, ((x5 * 1000000000) + (σ (p1 + 1) x7))), (9, 0), (1, 0), (9, 0)]) dX1_divideByPart_55 (Nat.le_of_ble_eq_true rfl) rfl ?_
      refine Z_aload dX1_divideByPart_57 rfl ?_
      refine Z_get (T := TX9) (N := 3) (ci := 9) (t := 2) 0 dX1_divideByPart_59 hp4 (z_leN hp4 (by decide)) rfl (by decide) inX9 (by decide) (flX1_28 rfl) rfl ?_
      refine Z_top (y := (p4 + 1)) (Fix.get g3 hp4 0 1 (by decide +kernel)) ?_
      refine Z_iload dX1_divideByPart_62 rfl ?_
      refine Z_lload dX1_divideByPart_64 rfl ?_
      refine Z_l2i dX1_divideByPart_66 ?_
      refine Z_iast dX1_divideByPart_67 (zo_9_0 hp4) (z_leN (zo_9_0 hp4) (by decide)) g4 g5 ?_
      refine Z_lload_n 2 dX1_divideByPart_68 rfl rfl ?_
      refine Z_lconst (x := 0) dX1_divideByPart_69 rfl ?_
      refine Z_lc_le (tgt := 84) dX1_divideByPart_70 dX1_divideByPart_71 (by decide) g7 ⟨by decide, by decide⟩ (fun c => ?_) (fun c => ?_)
      · replace h := h.1 c
        refine Z_lconst (x := 0) dX1_divideByPart_84 rfl ?_
        refine Z_lstore (L' := [(2, p0), (2, p1), (1, x2), (9, 0), (2, p4), (1, 0), (9, 0), (0, x7), (1, ((x5 * 1000000000) + (σ (p1 + 1) x7))), (9, 0), (1, 0), (9, 0)]) dX1_divideByPart_85 (Nat.le_of_ble_eq_true rfl) rfl ?_
        refine Z_iinc (L' := [(2, p0), (2, p1), (1, x2), (9, 0), (2, p4), (1, 0), (9, 0), (0, (x7 + (-1))), (1, ((x5 * 1000000000) + (σ (p1 + 1) x7))), (9, 0), (1, 0), (9, 0)]) dX1_divideByPart_87 rfl (Nat.le_of_ble_eq_true rfl) rfl ?_
        refine Z_goto (tgt := 19) dX1_divideByPart_90 (by decide) ?_
        exact Z_few (z_few_k (z_few_k (z_few_k (z_few_k (z_few_k (z_few_k (z_few_k (z_few_k (z_few_d (z_few_k (z_few_d (z_few_k z_few_0)))))))))))) h
      · replace h := h.2 c
        refine Z_lload dX1_divideByPart_74 rfl ?_
        refine Z_lload dX1_divideByPart_76 rfl ?_
        refine Z_lload_n 2 dX1_divideByPart_78 rfl rfl ?_
        refine Z_lmul dX1_divideByPart_79 ?_
        refine Z_lsub dX1_divideByPart_80 ?_
        refine Z_goto (tgt := 85) dX1_divideByPart_81 (by decide) ?_
        refine Z_lstore (L' := [(2, p0), (2, p1), (1, x2), (9, 0), (2, p4), (1, (((x5 * 1000000000) + (σ (p1 + 1) x7)) - (0 * x2))), (9, 0), (0, x7), (1, ((x5 * 1000000000) + (σ (p1 + 1) x7))), (9, 0), (1, 0), (9, 0)]) dX1_divideByPart_85 (Nat.le_of_ble_eq_true rfl) rfl ?_
        refine Z_iinc (L' := [(2, p0), (2, p1), (1, x2), (9, 0), (2, p4), (1, (((x5 * 1000000000) + (σ (p1 + 1) x7)) - (0 * x2))), (9, 0), (0, (x7 + (-1))), (1, ((x5 * 1000000000) + (σ (p1 + 1) x7))), (9, 0), (1, 0), (9, 0)]) dX1_divideByPart_87 rfl (Nat.le_of_ble_eq_true rfl) rfl ?_
        refine Z_goto (tgt := 19) dX1_divideByPart_90 (by decide) ?_
        exact Z_few (z_few_k (z_few_k (z_few_k (z_few_k (z_few_k (z_few_k (z_few_k (z_few_k (z_few_d (z_few_k (z_few_d (z_few_k z_few_0)))))))))))) h
    · replace h := h.2 c
      refine Z_lload dX1_divideByPart_47 rfl ?_
      refine Z_lload_n 2 dX1_divideByPart_49 rfl rfl ?_
      obtain ⟨g8, h⟩ := h
      obtain ⟨g9, h⟩ := h
      refine Z_ldiv dX1_divideByPart_50 g8 g7 g9 ?_
      refine Z_goto (tgt := 55) dX1_divideByPart_51 (by decide) ?_
      refine Z_lstore (L' := [(2, p0), (2, p1), (1, x2), (9, 0), (2, p4), (1, x5), (9, 0), (0, x7), (1, ((x5 * 1000000000) + (σ (p1 + 1) x7))), (9, 0), (1, (Int.tdiv ((x5 * 1000000000) + (σ (p1 + 1) x7)) x2)), (9, 0)]) dX1_divideByPart_55 (Nat.le_of_ble_eq_true rfl) rfl ?_
      refine Z_aload dX1_divideByPart_57 rfl ?_
      refine Z_get (T := TX9) (N := 3) (ci := 9) (t := 2) 0 dX1_divideByPart_59 hp4 (z_leN hp4 (by decide)) rfl (by decide) inX9 (by decide) (flX1_28 rfl) rfl ?_
      refine Z_top (y := (p4 + 1)) (Fix.get g3 hp4 0 1 (by decide +kernel)) ?_
      refine Z_iload dX1_divideByPart_62 rfl ?_
      refine Z_lload dX1_divideByPart_64 rfl ?_
      refine Z_l2i dX1_divideByPart_66 ?_
      refine Z_iast dX1_divideByPart_67 (zo_9_0 hp4) (z_leN (zo_9_0 hp4) (by decide)) g4 g5 ?_
      refine Z_lload_n 2 dX1_divideByPart_68 rfl rfl ?_
      refine Z_lconst (x := 0) dX1_divideByPart_69 rfl ?_
      refine Z_lc_le (tgt := 84) dX1_divideByPart_70 dX1_divideByPart_71 (by decide) g7 ⟨by decide, by decide⟩ (fun c => ?_) (fun c => ?_)
      · replace h := h.1 c
        refine Z_lconst (x := 0) dX1_divideByPart_84 rfl ?_
        refine Z_lstore (L' := [(2, p0), (2, p1), (1, x2), (9, 0), (2, p4), (1, 0), (9, 0), (0, x7), (1, ((x5 * 1000000000) + (σ (p1 + 1) x7))), (9, 0), (1, (Int.tdiv ((x5 * 1000000000) + (σ (p1 + 1) x7)) x2)), (9, 0)]) dX1_divideByPart_85 (Nat.le_of_ble_eq_true rfl) rfl ?_
        refine Z_iinc (L' := [(2, p0), (2, p1), (1, x2), (9, 0), (2, p4), (1, 0), (9, 0), (0, (x7 + (-1))), (1, ((x5 * 1000000000) + (σ (p1 + 1) x7))), (9, 0), (1, (Int.tdiv ((x5 * 1000000000) + (σ (p1 + 1) x7)) x2)), (9, 0)]) dX1_divideByPart_87 rfl (Nat.le_of_ble_eq_true rfl) rfl ?_
        refine Z_goto (tgt := 19) dX1_divideByPart_90 (by decide) ?_
        exact Z_few (z_few_k (z_few_k (z_few_k (z_few_k (z_few_k (z_few_k (z_few_k (z_few_k (z_few_d (z_few_k (z_few_d (z_few_k z_few_0)))))))))))) h
      · replace h := h.2 c
        refine Z_lload dX1_divideByPart_74 rfl ?_
        refine Z_lload dX1_divideByPart_76 rfl ?_
        refine Z_lload_n 2 dX1_divideByPart_78 rfl rfl ?_
        refine Z_lmul dX1_divideByPart_79 ?_
        refine Z_lsub dX1_divideByPart_80 ?_
        refine Z_goto (tgt := 85) dX1_divideByPart_81 (by decide) ?_
        refine Z_lstore (L' := [(2, p0), (2, p1), (1, x2), (9, 0), (2, p4), (1, (((x5 * 1000000000) + (σ (p1 + 1) x7)) - ((Int.tdiv ((x5 * 1000000000) + (σ (p1 + 1) x7)) x2) * x2))), (9, 0), (0, x7), (1, ((x5 * 1000000000) + (σ (p1 + 1) x7))), (9, 0), (1, (Int.tdiv ((x5 * 1000000000) + (σ (p1 + 1) x7)) x2)), (9, 0)]) dX1_divideByPart_85 (Nat.le_of_ble_eq_true rfl) rfl ?_
        refine Z_iinc (L' := [(2, p0), (2, p1), (1, x2), (9, 0), (2, p4), (1, (((x5 * 1000000000) + (σ (p1 + 1) x7)) - ((Int.tdiv ((x5 * 1000000000) + (σ (p1 + 1) x7)) x2) * x2))), (9, 0), (0, (x7 + (-1))), (1, ((x5 * 1000000000) + (σ (p1 + 1) x7))), (9, 0), (1, (Int.tdiv ((x5 * 1000000000) + (σ (p1 + 1) x7)) x2)), (9, 0)]) dX1_divideByPart_87 rfl (Nat.le_of_ble_eq_true rfl) rfl ?_
        refine Z_goto (tgt := 19) dX1_divideByPart_90 (by decide) ?_
        exact Z_few (z_few_k (z_few_k (z_few_k (z_few_k (z_few_k (z_few_k (z_few_k (z_few_k (z_few_d (z_few_k (z_few_d (z_few_k z_few_0)))))))))))) h
theorem bk_X1_copyScaled {X : ZS} {σ : ZM} {T : ZM → Prop} {p0 : Int} (hp0 : z_l p0 = (1, 4)) {p1 : Int} (hp1 : z_l p1 = (9, 3)) {p2 : Int} (hp2 : z_l p2 = (20, 13)) {x3 : Int} (h : Z X (rX1_copyScaled zN) mX1_copyScaled 6 [(2, p0), (2, p1), (2, p2), (0, x3), (1, 0), (9, 0), (0, 0), (9, 0), (9, 0)] [] zN σ (zQv T)) : ZC X (rX1_copyScaled zN) mX1_copyScaled [(2, p0), (2, p1), (2, p2), (0, x3)] zN σ (zQv T) := by
  show Z X _ _ 0 [(2, p0), (2, p1), (2, p2), (0, x3), (9, 0), (9, 0), (9, 0), (9, 0), (9, 0)] [] _ σ _
  refine Z_lconst (x := 0) dX1_copyScaled_0 rfl ?_
  refine Z_lstore (L' := [(2, p0), (2, p1), (2, p2), (0, x3), (1, 0), (9, 0), (9, 0), (9, 0), (9, 0)]) dX1_copyScaled_1 (Nat.le_of_ble_eq_true rfl) rfl ?_
  refine Z_iconst dX1_copyScaled_3 ?_
  refine Z_istore (L' := [(2, p0), (2, p1), (2, p2), (0, x3), (1, 0), (9, 0), (0, 0), (9, 0), (9, 0)]) dX1_copyScaled_4 (Nat.le_of_ble_eq_true rfl) rfl ?_
  exact Z_few (z_few_k (z_few_k (z_few_k (z_few_k (z_few_k (z_few_k (z_few_k (z_few_k (z_few_k z_few_0))))))))) h
theorem bk_X1_copyScaled_6 {X : ZS} {σ : ZM} {T : ZM → Prop} {p0 : Int} (hp0 : z_l p0 = (1, 4)) {p1 : Int} (hp1 : z_l p1 = (9, 3)) {p2 : Int} (hp2 : z_l p2 = (20, 13)) {x3 : Int} {x4 : Int} {x6 : Int} (h : (r32 x6) ∧ (r32 x3) ∧ ((x3 ≤ x6) → T σ) ∧ ((¬ (x3 ≤ x6)) → ((13 ≤ x6) → T σ) ∧ ((¬ (13 ≤ x6)) → (r32 (σ p1 1)) ∧ (((σ p1 1) ≤ x6) → (r64 (x4 + 0)) ∧ (0 ≤ x6) ∧ (x6 < 13) ∧ Z X (rX1_copyScaled zN) mX1_copyScaled 6 [(2, p0), (2, p1), (2, p2), (0, x3), (1, (Int.tdiv (x4 + 0) 1000000000)), (9, 0), (0, (x6 + 1)), (9, 0), (9, 0)] [] zN (z_up σ p2 x6 ((x4 + 0) - ((Int.tdiv (x4 + 0) 1000000000) * 1000000000))) (zQv T)) ∧ ((¬ ((σ p1 1) ≤ x6)) → (Fix σ) ∧ (0 ≤ x6) ∧ (x6 < 12) ∧ (r32 (σ (p1 + 1) x6)) ∧ (r64 (x4 + ((σ (p1 + 1) x6) * (σ p0 3)))) ∧ (x6 < 13) ∧ Z X (rX1_copyScaled zN) mX1_copyScaled 6 [(2, p0), (2, p1), (2, p2), (0, x3), (1, (Int.tdiv (x4 + ((σ (p1 + 1) x6) * (σ p0 3))) 1000000000)), (9, 0), (0, (x6 + 1)), (9, 0), (9, 0)] [] zN (z_up σ p2 x6 ((x4 + ((σ (p1 + 1) x6) * (σ p0 3))) - ((Int.tdiv (x4 + ((σ (p1 + 1) x6) * (σ p0 3))) 1000000000) * 1000000000))) (zQv T))))) : Z X (rX1_copyScaled zN) mX1_copyScaled 6 [(2, p0), (2, p1), (2, p2), (0, x3), (1, x4), (9, 0), (0, x6), (9, 0), (9, 0)] [] zN σ (zQv T) := by
  refine Z_iload dX1_copyScaled_6 rfl ?_
  refine Z_iload_n 3 dX1_copyScaled_8 rfl rfl ?_
  obtain ⟨g1, h⟩ := h
  obtain ⟨g2, h⟩ := h
  refine Z_icmp_ge (tgt := 78) dX1_copyScaled_9 (by decide) g1 g2 (fun c => ?_) (fun c => ?_)
  · replace h := h.1 c
    exact Z_return dX1_copyScaled_78 rfl rfl ⟨rfl, h⟩
  · replace h := h.2 c
    refine Z_iload dX1_copyScaled_12 rfl ?_
    refine Z_aload_n 2 dX1_copyScaled_14 rfl rfl ?_
    refine Z_alen dX1_copyScaled_15 hp2 (by decide) (z_leN hp2 (by decide)) ?_
    refine Z_icmp_ge (tgt := 78) dX1_copyScaled_16 (by decide) g1 ⟨by decide, by decide⟩ (fun c => ?_) (fun c => ?_)
    · replace h := h.1 c
      exact Z_return dX1_copyScaled_78 rfl rfl ⟨rfl, h⟩
    · replace h := h.2 c
      refine Z_lload dX1_copyScaled_19 rfl ?_
      refine Z_iload dX1_copyScaled_21 rfl ?_
      refine Z_aload_n 1 dX1_copyScaled_23 rfl rfl ?_
      refine Z_get (T := TX9) (N := 3) (ci := 9) (t := 0) 1 dX1_copyScaled_24 hp1 (z_leN hp1 (by decide)) rfl (by decide) inX9 (by decide) (flX1_18 rfl) rfl ?_
      obtain ⟨g3, h⟩ := h
      refine Z_icmp_ge (tgt := 46) dX1_copyScaled_27 (by decide) g1 g3 (fun c => ?_) (fun c => ?_)
      · replace h := h.1 c
        refine Z_lconst (x := 0) dX1_copyScaled_46 rfl ?_
        refine Z_ladd dX1_copyScaled_47 ?_
        refine Z_lstore (L' := [(2, p0), (2, p1), (2, p2), (0, x3), (1, x4), (9, 0), (0, x6), (1, (x4 + 0)), (9, 0)]) dX1_copyScaled_48 (Nat.le_of_ble_eq_true rfl) rfl ?_
        refine Z_lload dX1_copyScaled_50 rfl ?_
        refine Z_ldc2 (x := 1000000000) dX1_copyScaled_52 ctX1_39 rfl ?_
        obtain ⟨g4, h⟩ := h
        refine Z_ldiv dX1_copyScaled_55 g4 ⟨by decide, by decide⟩ (by decide) ?_
        refine Z_lstore (L' := [(2, p0), (2, p1), (2, p2), (0, x3), (1, (Int.tdiv (x4 + 0) 1000000000)), (9, 0), (0, x6), (1, (x4 + 0)), (9, 0)]) dX1_copyScaled_56 (Nat.le_of_ble_eq_true rfl) rfl ?_
        refine Z_aload_n 2 dX1_copyScaled_58 rfl rfl ?_
        refine Z_iload dX1_copyScaled_59 rfl ?_
        refine Z_lload dX1_copyScaled_61 rfl ?_
        refine Z_lload dX1_copyScaled_63 rfl ?_
        refine Z_ldc2 (x := 1000000000) dX1_copyScaled_65 ctX1_39 rfl ?_
        refine Z_lmul dX1_copyScaled_68 ?_
        refine Z_lsub dX1_copyScaled_69 ?_
        refine Z_l2i dX1_copyScaled_70 ?_
        obtain ⟨g5, h⟩ := h
        obtain ⟨g6, h⟩ := h
        refine Z_iast dX1_copyScaled_71 hp2 (z_leN hp2 (by decide)) g5 g6 ?_
        refine Z_iinc (L' := [(2, p0), (2, p1), (2, p2), (0, x3), (1, (Int.tdiv (x4 + 0) 1000000000)), (9, 0), (0, (x6 + 1)), (1, (x4 + 0)), (9, 0)]) dX1_copyScaled_72 rfl (Nat.le_of_ble_eq_true rfl) rfl ?_
        refine Z_goto (tgt := 6) dX1_copyScaled_75 (by decide) ?_
        exact Z_few (z_few_k (z_few_k (z_few_k (z_few_k (z_few_k (z_few_k (z_few_k (z_few_d (z_few_k z_few_0))))))))) h
      · replace h := h.2 c
        refine Z_aload_n 1 dX1_copyScaled_30 rfl rfl ?_
        obtain ⟨g7, h⟩ := h
        refine Z_get (T := TX9) (N := 3) (ci := 9) (t := 2) 0 dX1_copyScaled_31 hp1 (z_leN hp1 (by decide)) rfl (by decide) inX9 (by decide) (flX1_28 rfl) rfl ?_
        refine Z_top (y := (p1 + 1)) (Fix.get g7 hp1 0 1 (by decide +kernel)) ?_
        refine Z_iload dX1_copyScaled_34 rfl ?_
        obtain ⟨g8, h⟩ := h
        obtain ⟨g9, h⟩ := h
        refine Z_iald dX1_copyScaled_36 (zo_9_0 hp1) (z_leN (zo_9_0 hp1) (by decide)) g8 g9 ?_
        obtain ⟨g10, h⟩ := h
        refine Z_i2l dX1_copyScaled_37 g10 ?_
        refine Z_aload_n 0 dX1_copyScaled_38 rfl rfl ?_
        refine Z_get (T := TX1) (N := 4) (ci := 1) (t := 1) 3 dX1_copyScaled_39 hp0 (z_leN hp0 (by decide)) rfl (by decide) inX1 (by decide) (flX1_41 rfl) rfl ?_
        refine Z_lmul dX1_copyScaled_42 ?_
        refine Z_goto (tgt := 47) dX1_copyScaled_43 (by decide) ?_
        refine Z_ladd dX1_copyScaled_47 ?_
        refine Z_lstore (L' := [(2, p0), (2, p1), (2, p2), (0, x3), (1, x4), (9, 0), (0, x6), (1, (x4 + ((σ (p1 + 1) x6) * (σ p0 3)))), (9, 0)]) dX1_copyScaled_48 (Nat.le_of_ble_eq_true rfl) rfl ?_
        refine Z_lload dX1_copyScaled_50 rfl ?_
        refine Z_ldc2 (x := 1000000000) dX1_copyScaled_52 ctX1_39 rfl ?_
        obtain ⟨g11, h⟩ := h
        refine Z_ldiv dX1_copyScaled_55 g11 ⟨by decide, by decide⟩ (by decide) ?_
        refine Z_lstore (L' := [(2, p0), (2, p1), (2, p2), (0, x3), (1, (Int.tdiv (x4 + ((σ (p1 + 1) x6) * (σ p0 3))) 1000000000)), (9, 0), (0, x6), (1, (x4 + ((σ (p1 + 1) x6) * (σ p0 3)))), (9, 0)]) dX1_copyScaled_56 (Nat.le_of_ble_eq_true rfl) rfl ?_
        refine Z_aload_n 2 dX1_copyScaled_58 rfl rfl ?_
        refine Z_iload dX1_copyScaled_59 rfl ?_
        refine Z_lload dX1_copyScaled_61 rfl ?_
        refine Z_lload dX1_copyScaled_63 rfl ?_
        refine Z_ldc2 (x := 1000000000) dX1_copyScaled_65 ctX1_39 rfl ?_
        refine Z_lmul dX1_copyScaled_68 ?_
        refine Z_lsub dX1_copyScaled_69 ?_
        refine Z_l2i dX1_copyScaled_70 ?_
        obtain ⟨g12, h⟩ := h
        refine Z_iast dX1_copyScaled_71 hp2 (z_leN hp2 (by decide)) g8 g12 ?_
        refine Z_iinc (L' := [(2, p0), (2, p1), (2, p2), (0, x3), (1, (Int.tdiv (x4 + ((σ (p1 + 1) x6) * (σ p0 3))) 1000000000)), (9, 0), (0, (x6 + 1)), (1, (x4 + ((σ (p1 + 1) x6) * (σ p0 3)))), (9, 0)]) dX1_copyScaled_72 rfl (Nat.le_of_ble_eq_true rfl) rfl ?_
        refine Z_goto (tgt := 6) dX1_copyScaled_75 (by decide) ?_
        exact Z_few (z_few_k (z_few_k (z_few_k (z_few_k (z_few_k (z_few_k (z_few_k (z_few_d (z_few_k z_few_0))))))))) h
theorem bk_X1_guessPart {X : ZS} {σ : ZM} {T : Int → ZM → Prop} {p0 : Int} (hp0 : z_l p0 = (1, 4)) {x1 : Int} (h : (Fix σ) ∧ (0 ≤ ((σ p0 2) - 1)) ∧ (((σ p0 2) - 1) < 13) ∧ (r32 (σ (p0 + 2) ((σ p0 2) - 1))) ∧ (r64 (σ (p0 + 2) ((σ p0 2) - 1))) ∧ ((¬ (σ (p0 + 2) ((σ p0 2) - 1)) = 0) → (0 ≤ (x1 + (σ p0 2))) ∧ ((x1 + (σ p0 2)) < 13) ∧ (r32 (σ (p0 + 1) (x1 + (σ p0 2)))) ∧ (0 ≤ ((x1 + (σ p0 2)) - 1)) ∧ (((x1 + (σ p0 2)) - 1) < 13) ∧ (r32 (σ (p0 + 1) ((x1 + (σ p0 2)) - 1))) ∧ (r64 (((σ (p0 + 1) (x1 + (σ p0 2))) * 1000000000) + (σ (p0 + 1) ((x1 + (σ p0 2)) - 1)))) ∧ ((σ (p0 + 2) ((σ p0 2) - 1)) ≠ 0) ∧ Z X (rX1_guessPart zN) mX1_guessPart 69 [(2, p0), (9, 0), (0, (x1 + (σ p0 2))), (1, (σ (p0 + 2) ((σ p0 2) - 1))), (9, 0), (9, 0), (9, 0), (1, (Int.tdiv (((σ (p0 + 1) (x1 + (σ p0 2))) * 1000000000) + (σ (p0 + 1) ((x1 + (σ p0 2)) - 1))) (σ (p0 + 2) ((σ p0 2) - 1)))), (9, 0), (1, ((((σ (p0 + 1) (x1 + (σ p0 2))) * 1000000000) + (σ (p0 + 1) ((x1 + (σ p0 2)) - 1))) - ((Int.tdiv (((σ (p0 + 1) (x1 + (σ p0 2))) * 1000000000) + (σ (p0 + 1) ((x1 + (σ p0 2)) - 1))) (σ (p0 + 2) ((σ p0 2) - 1))) * (σ (p0 + 2) ((σ p0 2) - 1))))), (9, 0), (0, 0)] [] zN σ (zQl T)) ∧ (((σ (p0 + 2) ((σ p0 2) - 1)) = 0) → T 0 σ)) : ZC X (rX1_guessPart zN) mX1_guessPart [(2, p0), (0, x1)] zN σ (zQl T) := by
  show Z X _ _ 0 [(2, p0), (0, x1), (9, 0), (9, 0), (9, 0), (9, 0), (9, 0), (9, 0), (9, 0), (9, 0), (9, 0), (9, 0)] [] _ σ _
  refine Z_iload_n 1 dX1_guessPart_0 rfl rfl ?_
  refine Z_aload_n 0 dX1_guessPart_1 rfl rfl ?_
  refine Z_get (T := TX1) (N := 4) (ci := 1) (t := 0) 2 dX1_guessPart_2 hp0 (z_leN hp0 (by decide)) rfl (by decide) inX1 (by decide) (flX1_25 rfl) rfl ?_
  refine Z_iadd dX1_guessPart_5 ?_
  refine Z_istore_n (L' := [(2, p0), (0, x1), (0, (x1 + (σ p0 2))), (9, 0), (9, 0), (9, 0), (9, 0), (9, 0), (9, 0), (9, 0), (9, 0), (9, 0)]) 2 dX1_guessPart_6 rfl (Nat.le_of_ble_eq_true rfl) rfl ?_
  refine Z_aload_n 0 dX1_guessPart_7 rfl rfl ?_
  obtain ⟨g1, h⟩ := h
  refine Z_get (T := TX1) (N := 4) (ci := 1) (t := 2) 1 dX1_guessPart_8 hp0 (z_leN hp0 (by decide)) rfl (by decide) inX1 (by decide) (flX1_15 rfl) rfl ?_
  refine Z_top (y := (p0 + 2)) (Fix.get g1 hp0 1 2 (by decide +kernel)) ?_
  refine Z_aload_n 0 dX1_guessPart_11 rfl rfl ?_
  refine Z_get (T := TX1) (N := 4) (ci := 1) (t := 0) 2 dX1_guessPart_12 hp0 (z_leN hp0 (by decide)) rfl (by decide) inX1 (by decide) (flX1_25 rfl) rfl ?_
  refine Z_iconst dX1_guessPart_15 ?_
  refine Z_isub dX1_guessPart_16 ?_
  obtain ⟨g2, h⟩ := h
  obtain ⟨g3, h⟩ := h
  refine Z_iald dX1_guessPart_17 (zo_1_1 hp0) (z_leN (zo_1_1 hp0) (by decide)) g2 g3 ?_
  obtain ⟨g4, h⟩ := h
  refine Z_i2l dX1_guessPart_18 g4 ?_
  refine Z_lstore_n (L' := [(2, p0), (0, x1), (0, (x1 + (σ p0 2))), (1, (σ (p0 + 2) ((σ p0 2) - 1))), (9, 0), (9, 0), (9, 0), (9, 0), (9, 0), (9, 0), (9, 0), (9, 0)]) 3 dX1_guessPart_19 rfl (Nat.le_of_ble_eq_true rfl) rfl ?_
  refine Z_lload_n 3 dX1_guessPart_20 rfl rfl ?_
  refine Z_lconst (x := 0) dX1_guessPart_21 rfl ?_
  obtain ⟨g5, h⟩ := h
  refine Z_lc_ne (tgt := 28) dX1_guessPart_22 dX1_guessPart_23 (by decide) g5 ⟨by decide, by decide⟩ (fun c => ?_) (fun c => ?_)
  · replace h := h.1 c
    refine Z_aload_n 0 dX1_guessPart_28 rfl rfl ?_
    refine Z_get (T := TX1) (N := 4) (ci := 1) (t := 2) 0 dX1_guessPart_29 hp0 (z_leN hp0 (by decide)) rfl (by decide) inX1 (by decide) (flX1_9 rfl) rfl ?_
    refine Z_top (y := (p0 + 1)) (Fix.get g1 hp0 0 1 (by decide +kernel)) ?_
    refine Z_iload_n 2 dX1_guessPart_32 rfl rfl ?_
    obtain ⟨g6, h⟩ := h
    obtain ⟨g7, h⟩ := h
    refine Z_iald dX1_guessPart_33 (zo_1_0 hp0) (z_leN (zo_1_0 hp0) (by decide)) g6 g7 ?_
    obtain ⟨g8, h⟩ := h
    refine Z_i2l dX1_guessPart_34 g8 ?_
    refine Z_ldc2 (x := 1000000000) dX1_guessPart_35 ctX1_39 rfl ?_
    refine Z_lmul dX1_guessPart_38 ?_
    refine Z_aload_n 0 dX1_guessPart_39 rfl rfl ?_
    refine Z_get (T := TX1) (N := 4) (ci := 1) (t := 2) 0 dX1_guessPart_40 hp0 (z_leN hp0 (by decide)) rfl (by decide) inX1 (by decide) (flX1_9 rfl) rfl ?_
    refine Z_top (y := (p0 + 1)) (Fix.get g1 hp0 0 1 (by decide +kernel)) ?_
    refine Z_iload_n 2 dX1_guessPart_43 rfl rfl ?_
    refine Z_iconst dX1_guessPart_44 ?_
    refine Z_isub dX1_guessPart_45 ?_
    obtain ⟨g9, h⟩ := h
    obtain ⟨g10, h⟩ := h
    refine Z_iald dX1_guessPart_46 (zo_1_0 hp0) (z_leN (zo_1_0 hp0) (by decide)) g9 g10 ?_
    obtain ⟨g11, h⟩ := h
    refine Z_i2l dX1_guessPart_47 g11 ?_
    refine Z_ladd dX1_guessPart_48 ?_
    refine Z_lstore (L' := [(2, p0), (0, x1), (0, (x1 + (σ p0 2))), (1, (σ (p0 + 2) ((σ p0 2) - 1))), (9, 0), (1, (((σ (p0 + 1) (x1 + (σ p0 2))) * 1000000000) + (σ (p0 + 1) ((x1 + (σ p0 2)) - 1)))), (9, 0), (9, 0), (9, 0), (9, 0), (9, 0), (9, 0)]) dX1_guessPart_49 (Nat.le_of_ble_eq_true rfl) rfl ?_
    refine Z_lload dX1_guessPart_51 rfl ?_
    refine Z_lload_n 3 dX1_guessPart_53 rfl rfl ?_
    obtain ⟨g12, h⟩ := h
    obtain ⟨g13, h⟩ := h
    refine Z_ldiv dX1_guessPart_54 g12 g5 g13 ?_
    refine Z_lstore (L' := [(2, p0), (0, x1), (0, (x1 + (σ p0 2))), (1, (σ (p0 + 2) ((σ p0 2) - 1))), (9, 0), (1, (((σ (p0 + 1) (x1 + (σ p0 2))) * 1000000000) + (σ (p0 + 1) ((x1 + (σ p0 2)) - 1)))), (9, 0), (1, (Int.tdiv (((σ (p0 + 1) (x1 + (σ p0 2))) * 1000000000) + (σ (p0 + 1) ((x1 + (σ p0 2)) - 1))) (σ (p0 + 2) ((σ p0 2) - 1)))), (9, 0), (9, 0), (9, 0), (9, 0)]) dX1_guessPart_55 (Nat.le_of_ble_eq_true rfl) rfl ?_
    refine Z_lload dX1_guessPart_57 rfl ?_
    refine Z_lload dX1_guessPart_59 rfl ?_
    refine Z_lload_n 3 dX1_guessPart_61 rfl rfl ?_
    refine Z_lmul dX1_guessPart_62 ?_
    refine Z_lsub dX1_guessPart_63 ?_
    refine Z_lstore (L' := [(2, p0), (0, x1), (0, (x1 + (σ p0 2))), (1, (σ (p0 + 2) ((σ p0 2) - 1))), (9, 0), (1, (((σ (p0 + 1) (x1 + (σ p0 2))) * 1000000000) + (σ (p0 + 1) ((x1 + (σ p0 2)) - 1)))), (9, 0), (1, (Int.tdiv (((σ (p0 + 1) (x1 + (σ p0 2))) * 1000000000) + (σ (p0 + 1) ((x1 + (σ p0 2)) - 1))) (σ (p0 + 2) ((σ p0 2) - 1)))), (9, 0), (1, ((((σ (p0 + 1) (x1 + (σ p0 2))) * 1000000000) + (σ (p0 + 1) ((x1 + (σ p0 2)) - 1))) - ((Int.tdiv (((σ (p0 + 1) (x1 + (σ p0 2))) * 1000000000) + (σ (p0 + 1) ((x1 + (σ p0 2)) - 1))) (σ (p0 + 2) ((σ p0 2) - 1))) * (σ (p0 + 2) ((σ p0 2) - 1))))), (9, 0), (9, 0)]) dX1_guessPart_64 (Nat.le_of_ble_eq_true rfl) rfl ?_
    refine Z_iconst dX1_guessPart_66 ?_
    refine Z_istore (L' := [(2, p0), (0, x1), (0, (x1 + (σ p0 2))), (1, (σ (p0 + 2) ((σ p0 2) - 1))), (9, 0), (1, (((σ (p0 + 1) (x1 + (σ p0 2))) * 1000000000) + (σ (p0 + 1) ((x1 + (σ p0 2)) - 1)))), (9, 0), (1, (Int.tdiv (((σ (p0 + 1) (x1 + (σ p0 2))) * 1000000000) + (σ (p0 + 1) ((x1 + (σ p0 2)) - 1))) (σ (p0 + 2) ((σ p0 2) - 1)))), (9, 0), (1, ((((σ (p0 + 1) (x1 + (σ p0 2))) * 1000000000) + (σ (p0 + 1) ((x1 + (σ p0 2)) - 1))) - ((Int.tdiv (((σ (p0 + 1) (x1 + (σ p0 2))) * 1000000000) + (σ (p0 + 1) ((x1 + (σ p0 2)) - 1))) (σ (p0 + 2) ((σ p0 2) - 1))) * (σ (p0 + 2) ((σ p0 2) - 1))))), (9, 0), (0, 0)]) dX1_guessPart_67 (Nat.le_of_ble_eq_true rfl) rfl ?_
    exact Z_few (z_few_k (z_few_d (z_few_k (z_few_k (z_few_k (z_few_d (z_few_k (z_few_k (z_few_k (z_few_k (z_few_k (z_few_k z_few_0)))))))))))) h
  · replace h := h.2 c
    refine Z_lconst (x := 0) dX1_guessPart_26 rfl ?_
    exact Z_lreturn dX1_guessPart_27 rfl rfl ⟨rfl, h⟩
theorem bk_X1_guessPart_69 {X : ZS} {σ : ZM} {T : Int → ZM → Prop} {p0 : Int} (hp0 : z_l p0 = (1, 4)) {x2 : Int} {x3 : Int} {x7 : Int} {x9 : Int} {x11 : Int} (h : (r32 x11) ∧ ((3 ≤ x11) → T x7 σ) ∧ ((¬ (3 ≤ x11)) → (r64 x9) ∧ ((1000000000 ≤ x9) → T x7 σ) ∧ ((¬ (1000000000 ≤ x9)) → (r64 x7) ∧ ((1000000000 ≤ x7) → Z X (rX1_guessPart zN) mX1_guessPart 69 [(2, p0), (9, 0), (0, x2), (1, x3), (9, 0), (9, 0), (9, 0), (1, (x7 - 1)), (9, 0), (1, (x9 + x3)), (9, 0), (0, (x11 + 1))] [] zN σ (zQl T)) ∧ ((¬ (1000000000 ≤ x7)) → (Fix σ) ∧ (0 ≤ ((σ p0 2) - 2)) ∧ (((σ p0 2) - 2) < 13) ∧ (r32 (σ (p0 + 2) ((σ p0 2) - 2))) ∧ (0 ≤ (x2 - 2)) ∧ ((x2 - 2) < 13) ∧ (r32 (σ (p0 + 1) (x2 - 2))) ∧ (r64 (x7 * (σ (p0 + 2) ((σ p0 2) - 2)))) ∧ (r64 ((x9 * 1000000000) + (σ (p0 + 1) (x2 - 2)))) ∧ ((((x9 * 1000000000) + (σ (p0 + 1) (x2 - 2))) < (x7 * (σ (p0 + 2) ((σ p0 2) - 2)))) → Z X (rX1_guessPart zN) mX1_guessPart 69 [(2, p0), (9, 0), (0, x2), (1, x3), (9, 0), (9, 0), (9, 0), (1, (x7 - 1)), (9, 0), (1, (x9 + x3)), (9, 0), (0, (x11 + 1))] [] zN σ (zQl T)) ∧ ((¬ (((x9 * 1000000000) + (σ (p0 + 1) (x2 - 2))) < (x7 * (σ (p0 + 2) ((σ p0 2) - 2))))) → T x7 σ))))) : Z X (rX1_guessPart zN) mX1_guessPart 69 [(2, p0), (9, 0), (0, x2), (1, x3), (9, 0), (9, 0), (9, 0), (1, x7), (9, 0), (1, x9), (9, 0), (0, x11)] [] zN σ (zQl T) := by
  refine Z_iload dX1_guessPart_69 rfl ?_
  refine Z_iconst dX1_guessPart_71 ?_
  obtain ⟨g1, h⟩ := h
  refine Z_icmp_ge (tgt := 149) dX1_guessPart_72 (by decide) g1 ⟨by decide, by decide⟩ (fun c => ?_) (fun c => ?_)
  · replace h := h.1 c
    refine Z_lload dX1_guessPart_149 rfl ?_
    exact Z_lreturn dX1_guessPart_151 rfl rfl ⟨rfl, h⟩
  · replace h := h.2 c
    refine Z_lload dX1_guessPart_75 rfl ?_
    refine Z_ldc2 (x := 1000000000) dX1_guessPart_77 ctX1_39 rfl ?_
    obtain ⟨g2, h⟩ := h
    refine Z_lc_ge (tgt := 149) dX1_guessPart_80 dX1_guessPart_81 (by decide) g2 ⟨by decide, by decide⟩ (fun c => ?_) (fun c => ?_)
    · replace h := h.1 c
      refine Z_lload dX1_guessPart_149 rfl ?_
      exact Z_lreturn dX1_guessPart_151 rfl rfl ⟨rfl, h⟩
    · replace h := h.2 c
      refine Z_lload dX1_guessPart_84 rfl ?_
      refine Z_ldc2 (x := 1000000000) dX1_guessPart_86 ctX1_39 rfl ?_
      obtain ⟨g3, h⟩ := h
      refine Z_lc_ge (tgt := 131) dX1_guessPart_89 dX1_guessPart_90 (by decide) g3 ⟨by decide, by decide⟩ (fun c => ?_) (fun c => ?_)
      · replace h := h.1 c
        refine Z_lload dX1_guessPart_131 rfl ?_
        refine Z_lconst (x := 1) dX1_guessPart_133 rfl ?_
        refine Z_lsub dX1_guessPart_134 ?_
        refine Z_lstore (L' := [(2, p0), (9, 0), (0, x2), (1, x3), (9, 0), (9, 0), (9, 0), (1, (x7 - 1)), (9, 0), (1, x9), (9, 0), (0, x11)]) dX1_guessPart_135 (Nat.le_of_ble_eq_true rfl) rfl ?_
        refine Z_lload dX1_guessPart_137 rfl ?_
        refine Z_lload_n 3 dX1_guessPart_139 rfl rfl ?_
        refine Z_ladd dX1_guessPart_140 ?_
        refine Z_lstore (L' := [(2, p0), (9, 0), (0, x2), (1, x3), (9, 0), (9, 0), (9, 0), (1, (x7 - 1)), (9, 0), (1, (x9 + x3)), (9, 0), (0, x11)]) dX1_guessPart_141 (Nat.le_of_ble_eq_true rfl) rfl ?_
        refine Z_iinc (L' := [(2, p0), (9, 0), (0, x2), (1, x3), (9, 0), (9, 0), (9, 0), (1, (x7 - 1)), (9, 0), (1, (x9 + x3)), (9, 0), (0, (x11 + 1))]) dX1_guessPart_143 rfl (Nat.le_of_ble_eq_true rfl) rfl ?_
        refine Z_goto (tgt := 69) dX1_guessPart_146 (by decide) ?_
        exact Z_few (z_few_k (z_few_k (z_few_k (z_few_k (z_few_k (z_few_k (z_few_k (z_few_k (z_few_k (z_few_k (z_few_k (z_few_k z_few_0)))))))))))) h
      · replace h := h.2 c
        refine Z_lload dX1_guessPart_93 rfl ?_
        refine Z_aload_n 0 dX1_guessPart_95 rfl rfl ?_
        obtain ⟨g4, h⟩ := h
        refine Z_get (T := TX1) (N := 4) (ci := 1) (t := 2) 1 dX1_guessPart_96 hp0 (z_leN hp0 (by decide)) rfl (by decide) inX1 (by decide) (flX1_15 rfl) rfl ?_
        refine Z_top (y := (p0 + 2)) (Fix.get g4 hp0 1 2 (by decide +kernel)) ?_
        refine Z_aload_n 0 dX1_guessPart_99 rfl rfl ?_
        refine Z_get (T := TX1) (N := 4) (ci := 1) (t := 0) 2 dX1_guessPart_100 hp0 (z_leN hp0 (by decide)) rfl (by decide) inX1 (by decide) (flX1_25 rfl) rfl ?_
        refine Z_iconst dX1_guessPart_103 ?_
        refine Z_isub dX1_guessPart_104 ?_
        obtain ⟨g5, h⟩ := h
        obtain ⟨g6, h⟩ := h
        refine Z_iald dX1_guessPart_105 (zo_1_1 hp0) (z_leN (zo_1_1 hp0) (by decide)) g5 g6 ?_
        obtain ⟨g7, h⟩ := h
        refine Z_i2l dX1_guessPart_106 g7 ?_
        refine Z_lmul dX1_guessPart_107 ?_
        refine Z_lload dX1_guessPart_108 rfl ?_
        refine Z_ldc2 (x := 1000000000) dX1_guessPart_110 ctX1_39 rfl ?_
        refine Z_lmul dX1_guessPart_113 ?_
        refine Z_aload_n 0 dX1_guessPart_114 rfl rfl ?_
        refine Z_get (T := TX1) (N := 4) (ci := 1) (t := 2) 0 dX1_guessPart_115 hp0 (z_leN hp0 (by decide)) rfl (by decide) inX1 (by decide) (flX1_9 rfl) rfl ?_
        refine Z_top (y := (p0 + 1)) (Fix.get g4 hp0 0 1 (by decide +kernel)) ?_
        refine Z_iload_n 2 dX1_guessPart_118 rfl rfl ?_
        refine Z_iconst dX1_guessPart_119 ?_
        refine Z_isub dX1_guessPart_120 ?_
        obtain ⟨g8, h⟩ := h
        obtain ⟨g9, h⟩ := h
        refine Z_iald dX1_guessPart_121 (zo_1_0 hp0) (z_leN (zo_1_0 hp0) (by decide)) g8 g9 ?_
        obtain ⟨g10, h⟩ := h
        refine Z_i2l dX1_guessPart_122 g10 ?_
        refine Z_ladd dX1_guessPart_123 ?_
        obtain ⟨g11, h⟩ := h
        obtain ⟨g12, h⟩ := h
        refine Z_lc_gt (tgt := 131) dX1_guessPart_124 dX1_guessPart_125 (by decide) g11 g12 (fun c => ?_) (fun c => ?_)
        · replace h := h.1 c
          refine Z_lload dX1_guessPart_131 rfl ?_
          refine Z_lconst (x := 1) dX1_guessPart_133 rfl ?_
          refine Z_lsub dX1_guessPart_134 ?_
          refine Z_lstore (L' := [(2, p0), (9, 0), (0, x2), (1, x3), (9, 0), (9, 0), (9, 0), (1, (x7 - 1)), (9, 0), (1, x9), (9, 0), (0, x11)]) dX1_guessPart_135 (Nat.le_of_ble_eq_true rfl) rfl ?_
          refine Z_lload dX1_guessPart_137 rfl ?_
          refine Z_lload_n 3 dX1_guessPart_139 rfl rfl ?_
          refine Z_ladd dX1_guessPart_140 ?_
          refine Z_lstore (L' := [(2, p0), (9, 0), (0, x2), (1, x3), (9, 0), (9, 0), (9, 0), (1, (x7 - 1)), (9, 0), (1, (x9 + x3)), (9, 0), (0, x11)]) dX1_guessPart_141 (Nat.le_of_ble_eq_true rfl) rfl ?_
          refine Z_iinc (L' := [(2, p0), (9, 0), (0, x2), (1, x3), (9, 0), (9, 0), (9, 0), (1, (x7 - 1)), (9, 0), (1, (x9 + x3)), (9, 0), (0, (x11 + 1))]) dX1_guessPart_143 rfl (Nat.le_of_ble_eq_true rfl) rfl ?_
          refine Z_goto (tgt := 69) dX1_guessPart_146 (by decide) ?_
          exact Z_few (z_few_k (z_few_k (z_few_k (z_few_k (z_few_k (z_few_k (z_few_k (z_few_k (z_few_k (z_few_k (z_few_k (z_few_k z_few_0)))))))))))) h
        · replace h := h.2 c
          refine Z_goto (tgt := 149) dX1_guessPart_128 (by decide) ?_
          refine Z_lload dX1_guessPart_149 rfl ?_
          exact Z_lreturn dX1_guessPart_151 rfl rfl ⟨rfl, h⟩
theorem bk_X1_takeAway {X : ZS} {σ : ZM} {T : Bool → ZM → Prop} {p0 : Int} (hp0 : z_l p0 = (1, 4)) {x1 : Int} {x2 : Int} (h : Z X (rX1_takeAway zN) mX1_takeAway 6 [(2, p0), (0, x1), (1, x2), (9, 0), (1, 0), (9, 0), (0, 0), (9, 0), (9, 0), (9, 0), (9, 0)] [] zN σ (zQz T)) : ZC X (rX1_takeAway zN) mX1_takeAway [(2, p0), (0, x1), (1, x2)] zN σ (zQz T) := by
  show Z X _ _ 0 [(2, p0), (0, x1), (1, x2), (9, 0), (9, 0), (9, 0), (9, 0), (9, 0), (9, 0), (9, 0), (9, 0)] [] _ σ _
  refine Z_lconst (x := 0) dX1_takeAway_0 rfl ?_
  refine Z_lstore (L' := [(2, p0), (0, x1), (1, x2), (9, 0), (1, 0), (9, 0), (9, 0), (9, 0), (9, 0), (9, 0), (9, 0)]) dX1_takeAway_1 (Nat.le_of_ble_eq_true rfl) rfl ?_
  refine Z_iconst dX1_takeAway_3 ?_
  refine Z_istore (L' := [(2, p0), (0, x1), (1, x2), (9, 0), (1, 0), (9, 0), (0, 0), (9, 0), (9, 0), (9, 0), (9, 0)]) dX1_takeAway_4 (Nat.le_of_ble_eq_true rfl) rfl ?_
  exact Z_few (z_few_k (z_few_k (z_few_k (z_few_k (z_few_k (z_few_k (z_few_k (z_few_k (z_few_k (z_few_k (z_few_k z_few_0))))))))))) h
theorem bk_X1_takeAway_6 {X : ZS} {σ : ZM} {T : Bool → ZM → Prop} {p0 : Int} (hp0 : z_l p0 = (1, 4)) {x1 : Int} {x2 : Int} {x4 : Int} {x6 : Int} (h : (r32 x6) ∧ (r32 (σ p0 2)) ∧ (((σ p0 2) < x6) → (r64 x4) ∧ ((0 ≤ x4) → T false σ) ∧ ((¬ (0 ≤ x4)) → T true σ)) ∧ ((¬ ((σ p0 2) < x6)) → (Fix σ) ∧ (0 ≤ (x1 + x6)) ∧ ((x1 + x6) < 13) ∧ (r32 (σ (p0 + 1) (x1 + x6))) ∧ (0 ≤ x6) ∧ (x6 < 13) ∧ (r32 (σ (p0 + 2) x6)) ∧ (r64 (((σ (p0 + 1) (x1 + x6)) + x4) - (x2 * (σ (p0 + 2) x6)))) ∧ (r64 ((((σ (p0 + 1) (x1 + x6)) + x4) - (x2 * (σ (p0 + 2) x6))) - ((Int.tdiv (((σ (p0 + 1) (x1 + x6)) + x4) - (x2 * (σ (p0 + 2) x6))) 1000000000) * 1000000000))) ∧ ((0 ≤ ((((σ (p0 + 1) (x1 + x6)) + x4) - (x2 * (σ (p0 + 2) x6))) - ((Int.tdiv (((σ (p0 + 1) (x1 + x6)) + x4) - (x2 * (σ (p0 + 2) x6))) 1000000000) * 1000000000))) → Z X (rX1_takeAway zN) mX1_takeAway 6 [(2, p0), (0, x1), (1, x2), (9, 0), (1, (Int.tdiv (((σ (p0 + 1) (x1 + x6)) + x4) - (x2 * (σ (p0 + 2) x6))) 1000000000)), (9, 0), (0, (x6 + 1)), (9, 0), (9, 0), (9, 0), (9, 0)] [] zN (z_up σ (p0 + 1) (x1 + x6) ((((σ (p0 + 1) (x1 + x6)) + x4) - (x2 * (σ (p0 + 2) x6))) - ((Int.tdiv (((σ (p0 + 1) (x1 + x6)) + x4) - (x2 * (σ (p0 + 2) x6))) 1000000000) * 1000000000))) (zQz T)) ∧ ((¬ (0 ≤ ((((σ (p0 + 1) (x1 + x6)) + x4) - (x2 * (σ (p0 + 2) x6))) - ((Int.tdiv (((σ (p0 + 1) (x1 + x6)) + x4) - (x2 * (σ (p0 + 2) x6))) 1000000000) * 1000000000)))) → Z X (rX1_takeAway zN) mX1_takeAway 6 [(2, p0), (0, x1), (1, x2), (9, 0), (1, ((Int.tdiv (((σ (p0 + 1) (x1 + x6)) + x4) - (x2 * (σ (p0 + 2) x6))) 1000000000) - 1)), (9, 0), (0, (x6 + 1)), (9, 0), (9, 0), (9, 0), (9, 0)] [] zN (z_up σ (p0 + 1) (x1 + x6) (((((σ (p0 + 1) (x1 + x6)) + x4) - (x2 * (σ (p0 + 2) x6))) - ((Int.tdiv (((σ (p0 + 1) (x1 + x6)) + x4) - (x2 * (σ (p0 + 2) x6))) 1000000000) * 1000000000)) + 1000000000)) (zQz T)))) : Z X (rX1_takeAway zN) mX1_takeAway 6 [(2, p0), (0, x1), (1, x2), (9, 0), (1, x4), (9, 0), (0, x6), (9, 0), (9, 0), (9, 0), (9, 0)] [] zN σ (zQz T) := by
  refine Z_iload dX1_takeAway_6 rfl ?_
  refine Z_aload_n 0 dX1_takeAway_8 rfl rfl ?_
  refine Z_get (T := TX1) (N := 4) (ci := 1) (t := 0) 2 dX1_takeAway_9 hp0 (z_leN hp0 (by decide)) rfl (by decide) inX1 (by decide) (flX1_25 rfl) rfl ?_
  obtain ⟨g1, h⟩ := h
  obtain ⟨g2, h⟩ := h
  refine Z_icmp_gt (tgt := 99) dX1_takeAway_12 (by decide) g1 g2 (fun c => ?_) (fun c => ?_)
  · replace h := h.1 c
    refine Z_lload dX1_takeAway_99 rfl ?_
    refine Z_lconst (x := 0) dX1_takeAway_101 rfl ?_
    obtain ⟨g3, h⟩ := h
    refine Z_lc_ge (tgt := 110) dX1_takeAway_102 dX1_takeAway_103 (by decide) g3 ⟨by decide, by decide⟩ (fun c => ?_) (fun c => ?_)
    · replace h := h.1 c
      refine Z_iconst dX1_takeAway_110 ?_
      exact Z_zreturn dX1_takeAway_111 rfl (Or.inl rfl) rfl ⟨rfl, false, rfl, h⟩
    · replace h := h.2 c
      refine Z_iconst dX1_takeAway_106 ?_
      refine Z_goto (tgt := 111) dX1_takeAway_107 (by decide) ?_
      exact Z_zreturn dX1_takeAway_111 rfl (Or.inr rfl) rfl ⟨rfl, true, rfl, h⟩
  · replace h := h.2 c
    refine Z_aload_n 0 dX1_takeAway_15 rfl rfl ?_
    obtain ⟨g4, h⟩ := h
    refine Z_get (T := TX1) (N := 4) (ci := 1) (t := 2) 0 dX1_takeAway_16 hp0 (z_leN hp0 (by decide)) rfl (by decide) inX1 (by decide) (flX1_9 rfl) rfl ?_
    refine Z_top (y := (p0 + 1)) (Fix.get g4 hp0 0 1 (by decide +kernel)) ?_
    refine Z_iload_n 1 dX1_takeAway_19 rfl rfl ?_
    refine Z_iload dX1_takeAway_20 rfl ?_
    refine Z_iadd dX1_takeAway_22 ?_
    obtain ⟨g5, h⟩ := h
    obtain ⟨g6, h⟩ := h
    refine Z_iald dX1_takeAway_23 (zo_1_0 hp0) (z_leN (zo_1_0 hp0) (by decide)) g5 g6 ?_
    obtain ⟨g7, h⟩ := h
    refine Z_i2l dX1_takeAway_24 g7 ?_
    refine Z_lload dX1_takeAway_25 rfl ?_
    refine Z_ladd dX1_takeAway_27 ?_
    refine Z_lload_n 2 dX1_takeAway_28 rfl rfl ?_
    refine Z_aload_n 0 dX1_takeAway_29 rfl rfl ?_
    refine Z_get (T := TX1) (N := 4) (ci := 1) (t := 2) 1 dX1_takeAway_30 hp0 (z_leN hp0 (by decide)) rfl (by decide) inX1 (by decide) (flX1_15 rfl) rfl ?_
    refine Z_top (y := (p0 + 2)) (Fix.get g4 hp0 1 2 (by decide +kernel)) ?_
    refine Z_iload dX1_takeAway_33 rfl ?_
    obtain ⟨g8, h⟩ := h
    obtain ⟨g9, h⟩ := h
    refine Z_iald dX1_takeAway_35 (zo_1_1 hp0) (z_leN (zo_1_1 hp0) (by decide)) g8 g9 ?_
    obtain ⟨g10, h⟩ := h
    refine Z_i2l dX1_takeAway_36 g10 ?_
    refine Z_lmul dX1_takeAway_37 ?_
    refine Z_lsub dX1_takeAway_38 ?_
    refine Z_lstore (L' := [(2, p0), (0, x1), (1, x2), (9, 0), (1, x4), (9, 0), (0, x6), (1, (((σ (p0 + 1) (x1 + x6)) + x4) - (x2 * (σ (p0 + 2) x6)))), (9, 0), (9, 0), (9, 0)]) dX1_takeAway_39 (Nat.le_of_ble_eq_true rfl) rfl ?_
    refine Z_lload dX1_takeAway_41 rfl ?_
    refine Z_ldc2 (x := 1000000000) dX1_takeAway_43 ctX1_39 rfl ?_
    obtain ⟨g11, h⟩ := h
    refine Z_ldiv dX1_takeAway_46 g11 ⟨by decide, by decide⟩ (by decide) ?_
    refine Z_lstore (L' := [(2, p0), (0, x1), (1, x2), (9, 0), (1, (Int.tdiv (((σ (p0 + 1) (x1 + x6)) + x4) - (x2 * (σ (p0 + 2) x6))) 1000000000)), (9, 0), (0, x6), (1, (((σ (p0 + 1) (x1 + x6)) + x4) - (x2 * (σ (p0 + 2) x6)))), (9, 0), (9, 0), (9, 0)]) dX1_takeAway_47 (Nat.le_of_ble_eq_true rfl) rfl ?_
    refine Z_lload dX1_takeAway_49 rfl ?_
    refine Z_lload dX1_takeAway_51 rfl ?_
    refine Z_ldc2 (x := 1000000000) dX1_takeAway_53 ctX1_39 rfl ?_
    refine Z_lmul dX1_takeAway_56 ?_
    refine Z_lsub dX1_takeAway_57 ?_
    refine Z_lstore (L' := [(2, p0), (0, x1), (1, x2), (9, 0), (1, (Int.tdiv (((σ (p0 + 1) (x1 + x6)) + x4) - (x2 * (σ (p0 + 2) x6))) 1000000000)), (9, 0), (0, x6), (1, (((σ (p0 + 1) (x1 + x6)) + x4) - (x2 * (σ (p0 + 2) x6)))), (9, 0), (1, ((((σ (p0 + 1) (x1 + x6)) + x4) - (x2 * (σ (p0 + 2) x6))) - ((Int.tdiv (((σ (p0 + 1) (x1 + x6)) + x4) - (x2 * (σ (p0 + 2) x6))) 1000000000) * 1000000000))), (9, 0)]) dX1_takeAway_58 (Nat.le_of_ble_eq_true rfl) rfl ?_
    refine Z_lload dX1_takeAway_60 rfl ?_
    refine Z_lconst (x := 0) dX1_takeAway_62 rfl ?_
    obtain ⟨g12, h⟩ := h
    refine Z_lc_ge (tgt := 81) dX1_takeAway_63 dX1_takeAway_64 (by decide) g12 ⟨by decide, by decide⟩ (fun c => ?_) (fun c => ?_)
    · replace h := h.1 c
      refine Z_aload_n 0 dX1_takeAway_81 rfl rfl ?_
      refine Z_get (T := TX1) (N := 4) (ci := 1) (t := 2) 0 dX1_takeAway_82 hp0 (z_leN hp0 (by decide)) rfl (by decide) inX1 (by decide) (flX1_9 rfl) rfl ?_
      refine Z_top (y := (p0 + 1)) (Fix.get g4 hp0 0 1 (by decide +kernel)) ?_
      refine Z_iload_n 1 dX1_takeAway_85 rfl rfl ?_
      refine Z_iload dX1_takeAway_86 rfl ?_
      refine Z_iadd dX1_takeAway_88 ?_
      refine Z_lload dX1_takeAway_89 rfl ?_
      refine Z_l2i dX1_takeAway_91 ?_
      refine Z_iast dX1_takeAway_92 (zo_1_0 hp0) (z_leN (zo_1_0 hp0) (by decide)) g5 g6 ?_
      refine Z_iinc (L' := [(2, p0), (0, x1), (1, x2), (9, 0), (1, (Int.tdiv (((σ (p0 + 1) (x1 + x6)) + x4) - (x2 * (σ (p0 + 2) x6))) 1000000000)), (9, 0), (0, (x6 + 1)), (1, (((σ (p0 + 1) (x1 + x6)) + x4) - (x2 * (σ (p0 + 2) x6)))), (9, 0), (1, ((((σ (p0 + 1) (x1 + x6)) + x4) - (x2 * (σ (p0 + 2) x6))) - ((Int.tdiv (((σ (p0 + 1) (x1 + x6)) + x4) - (x2 * (σ (p0 + 2) x6))) 1000000000) * 1000000000))), (9, 0)]) dX1_takeAway_93 rfl (Nat.le_of_ble_eq_true rfl) rfl ?_
      refine Z_goto (tgt := 6) dX1_takeAway_96 (by decide) ?_
      exact Z_few (z_few_k (z_few_k (z_few_k (z_few_k (z_few_k (z_few_k (z_few_k (z_few_d (z_few_k (z_few_d (z_few_k z_few_0))))))))))) h
    · replace h := h.2 c
      refine Z_lload dX1_takeAway_67 rfl ?_
      refine Z_ldc2 (x := 1000000000) dX1_takeAway_69 ctX1_39 rfl ?_
      refine Z_ladd dX1_takeAway_72 ?_
      refine Z_lstore (L' := [(2, p0), (0, x1), (1, x2), (9, 0), (1, (Int.tdiv (((σ (p0 + 1) (x1 + x6)) + x4) - (x2 * (σ (p0 + 2) x6))) 1000000000)), (9, 0), (0, x6), (1, (((σ (p0 + 1) (x1 + x6)) + x4) - (x2 * (σ (p0 + 2) x6)))), (9, 0), (1, (((((σ (p0 + 1) (x1 + x6)) + x4) - (x2 * (σ (p0 + 2) x6))) - ((Int.tdiv (((σ (p0 + 1) (x1 + x6)) + x4) - (x2 * (σ (p0 + 2) x6))) 1000000000) * 1000000000)) + 1000000000)), (9, 0)]) dX1_takeAway_73 (Nat.le_of_ble_eq_true rfl) rfl ?_
      refine Z_lload dX1_takeAway_75 rfl ?_
      refine Z_lconst (x := 1) dX1_takeAway_77 rfl ?_
      refine Z_lsub dX1_takeAway_78 ?_
      refine Z_lstore (L' := [(2, p0), (0, x1), (1, x2), (9, 0), (1, ((Int.tdiv (((σ (p0 + 1) (x1 + x6)) + x4) - (x2 * (σ (p0 + 2) x6))) 1000000000) - 1)), (9, 0), (0, x6), (1, (((σ (p0 + 1) (x1 + x6)) + x4) - (x2 * (σ (p0 + 2) x6)))), (9, 0), (1, (((((σ (p0 + 1) (x1 + x6)) + x4) - (x2 * (σ (p0 + 2) x6))) - ((Int.tdiv (((σ (p0 + 1) (x1 + x6)) + x4) - (x2 * (σ (p0 + 2) x6))) 1000000000) * 1000000000)) + 1000000000)), (9, 0)]) dX1_takeAway_79 (Nat.le_of_ble_eq_true rfl) rfl ?_
      refine Z_aload_n 0 dX1_takeAway_81 rfl rfl ?_
      refine Z_get (T := TX1) (N := 4) (ci := 1) (t := 2) 0 dX1_takeAway_82 hp0 (z_leN hp0 (by decide)) rfl (by decide) inX1 (by decide) (flX1_9 rfl) rfl ?_
      refine Z_top (y := (p0 + 1)) (Fix.get g4 hp0 0 1 (by decide +kernel)) ?_
      refine Z_iload_n 1 dX1_takeAway_85 rfl rfl ?_
      refine Z_iload dX1_takeAway_86 rfl ?_
      refine Z_iadd dX1_takeAway_88 ?_
      refine Z_lload dX1_takeAway_89 rfl ?_
      refine Z_l2i dX1_takeAway_91 ?_
      refine Z_iast dX1_takeAway_92 (zo_1_0 hp0) (z_leN (zo_1_0 hp0) (by decide)) g5 g6 ?_
      refine Z_iinc (L' := [(2, p0), (0, x1), (1, x2), (9, 0), (1, ((Int.tdiv (((σ (p0 + 1) (x1 + x6)) + x4) - (x2 * (σ (p0 + 2) x6))) 1000000000) - 1)), (9, 0), (0, (x6 + 1)), (1, (((σ (p0 + 1) (x1 + x6)) + x4) - (x2 * (σ (p0 + 2) x6)))), (9, 0), (1, (((((σ (p0 + 1) (x1 + x6)) + x4) - (x2 * (σ (p0 + 2) x6))) - ((Int.tdiv (((σ (p0 + 1) (x1 + x6)) + x4) - (x2 * (σ (p0 + 2) x6))) 1000000000) * 1000000000)) + 1000000000)), (9, 0)]) dX1_takeAway_93 rfl (Nat.le_of_ble_eq_true rfl) rfl ?_
      refine Z_goto (tgt := 6) dX1_takeAway_96 (by decide) ?_
      exact Z_few (z_few_k (z_few_k (z_few_k (z_few_k (z_few_k (z_few_k (z_few_k (z_few_d (z_few_k (z_few_d (z_few_k z_few_0))))))))))) h
theorem bk_X1_giveBack {X : ZS} {σ : ZM} {T : ZM → Prop} {p0 : Int} (hp0 : z_l p0 = (1, 4)) {x1 : Int} (h : Z X (rX1_giveBack zN) mX1_giveBack 5 [(2, p0), (0, x1), (1, 0), (9, 0), (0, 0), (9, 0), (9, 0)] [] zN σ (zQv T)) : ZC X (rX1_giveBack zN) mX1_giveBack [(2, p0), (0, x1)] zN σ (zQv T) := by
  show Z X _ _ 0 [(2, p0), (0, x1), (9, 0), (9, 0), (9, 0), (9, 0), (9, 0)] [] _ σ _
  refine Z_lconst (x := 0) dX1_giveBack_0 rfl ?_
  refine Z_lstore_n (L' := [(2, p0), (0, x1), (1, 0), (9, 0), (9, 0), (9, 0), (9, 0)]) 2 dX1_giveBack_1 rfl (Nat.le_of_ble_eq_true rfl) rfl ?_
  refine Z_iconst dX1_giveBack_2 ?_
  refine Z_istore (L' := [(2, p0), (0, x1), (1, 0), (9, 0), (0, 0), (9, 0), (9, 0)]) dX1_giveBack_3 (Nat.le_of_ble_eq_true rfl) rfl ?_
  exact Z_few (z_few_k (z_few_k (z_few_k (z_few_k (z_few_k (z_few_k (z_few_k z_few_0))))))) h
theorem bk_X1_giveBack_5 {X : ZS} {σ : ZM} {T : ZM → Prop} {p0 : Int} (hp0 : z_l p0 = (1, 4)) {x1 : Int} {x2 : Int} {x4 : Int} (h : (r32 x4) ∧ (r32 (σ p0 2)) ∧ (((σ p0 2) < x4) → T σ) ∧ ((¬ ((σ p0 2) < x4)) → (Fix σ) ∧ (0 ≤ (x1 + x4)) ∧ ((x1 + x4) < 13) ∧ (r32 (σ (p0 + 1) (x1 + x4))) ∧ (0 ≤ x4) ∧ (x4 < 13) ∧ (r32 (σ (p0 + 2) x4)) ∧ (r64 (((σ (p0 + 1) (x1 + x4)) + x2) + (σ (p0 + 2) x4))) ∧ Z X (rX1_giveBack zN) mX1_giveBack 5 [(2, p0), (0, x1), (1, (Int.tdiv (((σ (p0 + 1) (x1 + x4)) + x2) + (σ (p0 + 2) x4)) 1000000000)), (9, 0), (0, (x4 + 1)), (9, 0), (9, 0)] [] zN (z_up σ (p0 + 1) (x1 + x4) ((((σ (p0 + 1) (x1 + x4)) + x2) + (σ (p0 + 2) x4)) - ((Int.tdiv (((σ (p0 + 1) (x1 + x4)) + x2) + (σ (p0 + 2) x4)) 1000000000) * 1000000000))) (zQv T))) : Z X (rX1_giveBack zN) mX1_giveBack 5 [(2, p0), (0, x1), (1, x2), (9, 0), (0, x4), (9, 0), (9, 0)] [] zN σ (zQv T) := by
  refine Z_iload dX1_giveBack_5 rfl ?_
  refine Z_aload_n 0 dX1_giveBack_7 rfl rfl ?_
  refine Z_get (T := TX1) (N := 4) (ci := 1) (t := 0) 2 dX1_giveBack_8 hp0 (z_leN hp0 (by decide)) rfl (by decide) inX1 (by decide) (flX1_25 rfl) rfl ?_
  obtain ⟨g1, h⟩ := h
  obtain ⟨g2, h⟩ := h
  refine Z_icmp_gt (tgt := 68) dX1_giveBack_11 (by decide) g1 g2 (fun c => ?_) (fun c => ?_)
  · replace h := h.1 c
    exact Z_return dX1_giveBack_68 rfl rfl ⟨rfl, h⟩
  · replace h := h.2 c
    refine Z_aload_n 0 dX1_giveBack_14 rfl rfl ?_
    obtain ⟨g3, h⟩ := h
    refine Z_get (T := TX1) (N := 4) (ci := 1) (t := 2) 0 dX1_giveBack_15 hp0 (z_leN hp0 (by decide)) rfl (by decide) inX1 (by decide) (flX1_9 rfl) rfl ?_
    refine Z_top (y := (p0 + 1)) (Fix.get g3 hp0 0 1 (by decide +kernel)) ?_
    refine Z_iload_n 1 dX1_giveBack_18 rfl rfl ?_
    refine Z_iload dX1_giveBack_19 rfl ?_
    refine Z_iadd dX1_giveBack_21 ?_
    obtain ⟨g4, h⟩ := h
    obtain ⟨g5, h⟩ := h
    refine Z_iald dX1_giveBack_22 (zo_1_0 hp0) (z_leN (zo_1_0 hp0) (by decide)) g4 g5 ?_
    obtain ⟨g6, h⟩ := h
    refine Z_i2l dX1_giveBack_23 g6 ?_
    refine Z_lload_n 2 dX1_giveBack_24 rfl rfl ?_
    refine Z_ladd dX1_giveBack_25 ?_
    refine Z_aload_n 0 dX1_giveBack_26 rfl rfl ?_
    refine Z_get (T := TX1) (N := 4) (ci := 1) (t := 2) 1 dX1_giveBack_27 hp0 (z_leN hp0 (by decide)) rfl (by decide) inX1 (by decide) (flX1_15 rfl) rfl ?_
    refine Z_top (y := (p0 + 2)) (Fix.get g3 hp0 1 2 (by decide +kernel)) ?_
    refine Z_iload dX1_giveBack_30 rfl ?_
    obtain ⟨g7, h⟩ := h
    obtain ⟨g8, h⟩ := h
    refine Z_iald dX1_giveBack_32 (zo_1_1 hp0) (z_leN (zo_1_1 hp0) (by decide)) g7 g8 ?_
    obtain ⟨g9, h⟩ := h
    refine Z_i2l dX1_giveBack_33 g9 ?_
    refine Z_ladd dX1_giveBack_34 ?_
    refine Z_lstore (L' := [(2, p0), (0, x1), (1, x2), (9, 0), (0, x4), (1, (((σ (p0 + 1) (x1 + x4)) + x2) + (σ (p0 + 2) x4))), (9, 0)]) dX1_giveBack_35 (Nat.le_of_ble_eq_true rfl) rfl ?_
    refine Z_lload dX1_giveBack_37 rfl ?_
    refine Z_ldc2 (x := 1000000000) dX1_giveBack_39 ctX1_39 rfl ?_
    obtain ⟨g10, h⟩ := h
    refine Z_ldiv dX1_giveBack_42 g10 ⟨by decide, by decide⟩ (by decide) ?_
    refine Z_lstore_n (L' := [(2, p0), (0, x1), (1, (Int.tdiv (((σ (p0 + 1) (x1 + x4)) + x2) + (σ (p0 + 2) x4)) 1000000000)), (9, 0), (0, x4), (1, (((σ (p0 + 1) (x1 + x4)) + x2) + (σ (p0 + 2) x4))), (9, 0)]) 2 dX1_giveBack_43 rfl (Nat.le_of_ble_eq_true rfl) rfl ?_
    refine Z_aload_n 0 dX1_giveBack_44 rfl rfl ?_
    refine Z_get (T := TX1) (N := 4) (ci := 1) (t := 2) 0 dX1_giveBack_45 hp0 (z_leN hp0 (by decide)) rfl (by decide) inX1 (by decide) (flX1_9 rfl) rfl ?_
    refine Z_top (y := (p0 + 1)) (Fix.get g3 hp0 0 1 (by decide +kernel)) ?_
    refine Z_iload_n 1 dX1_giveBack_48 rfl rfl ?_
    refine Z_iload dX1_giveBack_49 rfl ?_
    refine Z_iadd dX1_giveBack_51 ?_
    refine Z_lload dX1_giveBack_52 rfl ?_
    refine Z_lload_n 2 dX1_giveBack_54 rfl rfl ?_
    refine Z_ldc2 (x := 1000000000) dX1_giveBack_55 ctX1_39 rfl ?_
    refine Z_lmul dX1_giveBack_58 ?_
    refine Z_lsub dX1_giveBack_59 ?_
    refine Z_l2i dX1_giveBack_60 ?_
    refine Z_iast dX1_giveBack_61 (zo_1_0 hp0) (z_leN (zo_1_0 hp0) (by decide)) g4 g5 ?_
    refine Z_iinc (L' := [(2, p0), (0, x1), (1, (Int.tdiv (((σ (p0 + 1) (x1 + x4)) + x2) + (σ (p0 + 2) x4)) 1000000000)), (9, 0), (0, (x4 + 1)), (1, (((σ (p0 + 1) (x1 + x4)) + x2) + (σ (p0 + 2) x4))), (9, 0)]) dX1_giveBack_62 rfl (Nat.le_of_ble_eq_true rfl) rfl ?_
    refine Z_goto (tgt := 5) dX1_giveBack_65 (by decide) ?_
    exact Z_few (z_few_k (z_few_k (z_few_k (z_few_k (z_few_k (z_few_d (z_few_k z_few_0))))))) h
theorem bk_X3_init {X : ZS} {n : Nat} {n1 : Nat} {σ : ZM} {T : ZM → Prop} {p0 : Int} (hp0 : z_l p0 = (3, 2)) (h : (z_l ((n + 1 : Nat) : Int) = (9, 3)) ∧ (n + 1 ≤ n1) ∧ (((n + 1 : Nat) : Int).toNat ≤ (n + 1)) ∧ (((n + 1) + 1) ≤ n1) ∧ ZC X (rX9_init ((n + 1) + 1)) mX9_init [(2, ((n + 1 : Nat) : Int))] (n + 1) (z_new σ ((n + 1 : Nat) : Int)) (zQv (fun σ6 => (p0.toNat ≤ ((n + 1) + 1)) ∧ (z_l ((((n + 1) + 1) + 1 : Nat) : Int) = (9, 3)) ∧ (((n + 1) + 1) + 1 ≤ n1) ∧ (((((n + 1) + 1) + 1 : Nat) : Int).toNat ≤ (((n + 1) + 1) + 1)) ∧ (((((n + 1) + 1) + 1) + 1) ≤ n1) ∧ ZC X (rX9_init ((((n + 1) + 1) + 1) + 1)) mX9_init [(2, ((((n + 1) + 1) + 1 : Nat) : Int))] (((n + 1) + 1) + 1) (z_new (z_up σ6 p0 0 ((n + 1 : Nat) : Int)) ((((n + 1) + 1) + 1 : Nat) : Int)) (zQv (fun σ14 => (p0.toNat ≤ ((((n + 1) + 1) + 1) + 1)) ∧ ((z_up σ14 p0 1 ((((n + 1) + 1) + 1 : Nat) : Int)) p0 1 = (p0 + 3)) ∧ ((p0 + 3).toNat ≤ ((((n + 1) + 1) + 1) + 1)) ∧ ZC X (rX9_put ((((n + 1) + 1) + 1) + 1)) mX9_put [(2, (p0 + 3)), (1, 1)] ((((n + 1) + 1) + 1) + 1) (z_up σ14 p0 1 ((((n + 1) + 1) + 1 : Nat) : Int)) (zQv (fun σ20 => (((((n + 1) + 1) + 1) + 1) = n1) ∧ T σ20))))))) : ZC X (rX3_init n1) mX3_init [(2, p0)] n σ (zQv T) := by
  show Z X _ _ 0 [(2, p0)] [] _ σ _
  refine Z_aload_n 0 dX3_init_0 rfl rfl ?_
  refine Z_objInit dX3_init_1 ((z_l_pos (by rw [hp0]; decide)).1) mlX3_1 ob_i ob_c (Nat.le_of_ble_eq_true rfl) (Nat.le_of_ble_eq_true rfl) (Nat.le_of_ble_eq_true rfl) ?_
  refine Z_aload_n 0 dX3_init_4 rfl rfl ?_
  obtain ⟨g1, h⟩ := h
  obtain ⟨g2, h⟩ := h
  refine Z_newO (T := TX9) (N := 3) (ci := 9) tyX9 dX3_init_5 rfl (by decide) inX9 tyX9_ok df_9 clX3_7 in_X9 iz_X9 g1 g2 ?_
  refine Z_dup dX3_init_8 (by simp) ?_
  obtain ⟨g3, h⟩ := h
  obtain ⟨g7, h⟩ := h
  refine Z_invI (M' := mX9_init) (ρ' := rX9_init ((n + 1) + 1)) (st := [(2, ((n + 1 : Nat) : Int)), (2, p0)]) [] dX3_init_9 rfl ((z_l_pos (by rw [g1]; decide)).1) rfl rfl rfl (kX9_init.cl (Nat.le_of_ble_eq_true rfl) (Nat.le_add_right _ _) g7 (Nat.le_of_ble_eq_true rfl) (Nat.le_of_ble_eq_true rfl) (Nat.le_of_ble_eq_true rfl)) (mlX3_9 rfl) iX9_init h (z_kv (fun σ6 h => ?_))
  obtain ⟨g8, h⟩ := h
  refine Z_put (T := TX3) (N := 2) (ci := 3) (t := 2) tyX3 0 dX3_init_12 hp0 g8 rfl (by decide) inX3 (by decide) (plX3_10 rfl rfl) rfl tyX3_ok nmX3 rfl (z_nf_o _ _) ?_
  refine Z_aload_n 0 dX3_init_15 rfl rfl ?_
  obtain ⟨g9, h⟩ := h
  obtain ⟨g10, h⟩ := h
  refine Z_newO (T := TX9) (N := 3) (ci := 9) tyX9 dX3_init_16 rfl (by decide) inX9 tyX9_ok df_9 clX3_7 in_X9 iz_X9 g9 g10 ?_
  refine Z_dup dX3_init_19 (by simp) ?_
  obtain ⟨g11, h⟩ := h
  obtain ⟨g15, h⟩ := h
  refine Z_invI (M' := mX9_init) (ρ' := rX9_init ((((n + 1) + 1) + 1) + 1)) (st := [(2, ((((n + 1) + 1) + 1 : Nat) : Int)), (2, p0)]) [] dX3_init_20 rfl ((z_l_pos (by rw [g9]; decide)).1) rfl rfl rfl (kX9_init.cl (Nat.le_of_ble_eq_true rfl) (Nat.le_add_right _ _) g15 (Nat.le_of_ble_eq_true rfl) (Nat.le_of_ble_eq_true rfl) (Nat.le_of_ble_eq_true rfl)) (mlX3_9 rfl) iX9_init h (z_kv (fun σ14 h => ?_))
  obtain ⟨g16, h⟩ := h
  refine Z_put (T := TX3) (N := 2) (ci := 3) (t := 2) tyX3 1 dX3_init_23 hp0 g16 rfl (by decide) inX3 (by decide) (plX3_16 rfl rfl) rfl tyX3_ok nmX3 rfl (z_nf_o _ _) ?_
  refine Z_aload_n 0 dX3_init_26 rfl rfl ?_
  obtain ⟨g17, h⟩ := h
  refine Z_get (T := TX3) (N := 2) (ci := 3) (t := 2) 1 dX3_init_27 hp0 g16 rfl (by decide) inX3 (by decide) (flX3_16 rfl) rfl ?_
  refine Z_top g17 ?_
  refine Z_lconst (x := 1) dX3_init_30 rfl ?_
  obtain ⟨g18, h⟩ := h
  refine Z_invV (T := TX9) (N := 3) (ci := 9) (M' := mX9_put) (ρ' := rX9_put ((((n + 1) + 1) + 1) + 1)) (st := []) [(1, 1)] dX3_init_31 rfl rfl (zo_3_1 hp0) g18 (by decide) rfl rfl (kX9_put.cl (Nat.le_of_ble_eq_true rfl) (Nat.le_refl _) (by first | exact Nat.le_refl _ | omega) (Nat.le_of_ble_eq_true rfl) (Nat.le_of_ble_eq_true rfl) (Nat.le_of_ble_eq_true rfl)) (mlX3_19 rfl) iX9_put sX9_put h (z_kv (fun σ20 h => ?_))
  obtain ⟨g21, h⟩ := h
  exact Z_return dX3_init_34 rfl g21 ⟨rfl, h⟩
theorem bk_X3_copyFrom {X : ZS} {σ : ZM} {T : ZM → Prop} {p0 : Int} (hp0 : z_l p0 = (3, 2)) {p1 : Int} (hp1 : z_l p1 = (3, 2)) (h : (Fix σ) ∧ ZC X (rX9_copyFrom zN) mX9_copyFrom [(2, (p0 + 1)), (2, (p1 + 1))] zN σ (zQv (fun σ3 => (Fix σ3) ∧ ZC X (rX9_copyFrom zN) mX9_copyFrom [(2, (p0 + 3)), (2, (p1 + 3))] zN σ3 (zQv (fun σ6 => T σ6))))) : ZC X (rX3_copyFrom zN) mX3_copyFrom [(2, p0), (2, p1)] zN σ (zQv T) := by
  show Z X _ _ 0 [(2, p0), (2, p1)] [] _ σ _
  refine Z_aload_n 0 dX3_copyFrom_0 rfl rfl ?_
  obtain ⟨g1, h⟩ := h
  refine Z_get (T := TX3) (N := 2) (ci := 3) (t := 2) 0 dX3_copyFrom_1 hp0 (z_leN hp0 (by decide)) rfl (by decide) inX3 (by decide) (flX3_10 rfl) rfl ?_
  refine Z_top (y := (p0 + 1)) (Fix.get g1 hp0 0 1 (by decide +kernel)) ?_
  refine Z_aload_n 1 dX3_copyFrom_4 rfl rfl ?_
  refine Z_get (T := TX3) (N := 2) (ci := 3) (t := 2) 0 dX3_copyFrom_5 hp1 (z_leN hp1 (by decide)) rfl (by decide) inX3 (by decide) (flX3_10 rfl) rfl ?_
  refine Z_top (y := (p1 + 1)) (Fix.get g1 hp1 0 1 (by decide +kernel)) ?_
  refine Z_invV (T := TX9) (N := 3) (ci := 9) (M' := mX9_copyFrom) (ρ' := rX9_copyFrom zN) (st := []) [(2, (p1 + 1))] dX3_copyFrom_8 rfl rfl (zo_3_0 hp0) (z_leN (zo_3_0 hp0) (by decide)) (by decide) rfl rfl (kX9_copyFrom.cl (Nat.le_of_ble_eq_true rfl) (Nat.le_refl _) (Nat.le_refl _) (Nat.le_of_ble_eq_true rfl) (Nat.le_of_ble_eq_true rfl) (Nat.le_of_ble_eq_true rfl)) (mlX3_23 rfl) iX9_copyFrom sX9_copyFrom h (z_kv (fun σ3 h => ?_))
  refine Z_aload_n 0 dX3_copyFrom_11 rfl rfl ?_
  obtain ⟨g4, h⟩ := h
  refine Z_get (T := TX3) (N := 2) (ci := 3) (t := 2) 1 dX3_copyFrom_12 hp0 (z_leN hp0 (by decide)) rfl (by decide) inX3 (by decide) (flX3_16 rfl) rfl ?_
  refine Z_top (y := (p0 + 3)) (Fix.get g4 hp0 1 3 (by decide +kernel)) ?_
  refine Z_aload_n 1 dX3_copyFrom_15 rfl rfl ?_
  refine Z_get (T := TX3) (N := 2) (ci := 3) (t := 2) 1 dX3_copyFrom_16 hp1 (z_leN hp1 (by decide)) rfl (by decide) inX3 (by decide) (flX3_16 rfl) rfl ?_
  refine Z_top (y := (p1 + 3)) (Fix.get g4 hp1 1 3 (by decide +kernel)) ?_
  refine Z_invV (T := TX9) (N := 3) (ci := 9) (M' := mX9_copyFrom) (ρ' := rX9_copyFrom zN) (st := []) [(2, (p1 + 3))] dX3_copyFrom_19 rfl rfl (zo_3_1 hp0) (z_leN (zo_3_1 hp0) (by decide)) (by decide) rfl rfl (kX9_copyFrom.cl (Nat.le_of_ble_eq_true rfl) (Nat.le_refl _) (Nat.le_refl _) (Nat.le_of_ble_eq_true rfl) (Nat.le_of_ble_eq_true rfl) (Nat.le_of_ble_eq_true rfl)) (mlX3_23 rfl) iX9_copyFrom sX9_copyFrom h (z_kv (fun σ6 h => ?_))
  exact Z_return dX3_copyFrom_22 rfl rfl ⟨rfl, h⟩
theorem bk_X9_init {X : ZS} {n : Nat} {n1 : Nat} {σ : ZM} {T : ZM → Prop} {p0 : Int} (hp0 : z_l p0 = (9, 3)) (h : (z_l ((n + 1 : Nat) : Int) = (20, 12)) ∧ (n + 1 ≤ n1) ∧ (p0.toNat ≤ (n + 1)) ∧ ((n + 1) = n1) ∧ T (z_up (z_new σ ((n + 1 : Nat) : Int)) p0 0 ((n + 1 : Nat) : Int))) : ZC X (rX9_init n1) mX9_init [(2, p0)] n σ (zQv T) := by
  show Z X _ _ 0 [(2, p0)] [] _ σ _
  refine Z_aload_n 0 dX9_init_0 rfl rfl ?_
  refine Z_objInit dX9_init_1 ((z_l_pos (by rw [hp0]; decide)).1) mlX9_1 ob_i ob_c (Nat.le_of_ble_eq_true rfl) (Nat.le_of_ble_eq_true rfl) (Nat.le_of_ble_eq_true rfl) ?_
  refine Z_aload_n 0 dX9_init_4 rfl rfl ?_
  refine Z_bipush dX9_init_5 (by decide) ?_
  obtain ⟨g1, h⟩ := h
  obtain ⟨g2, h⟩ := h
  refine Z_newI dX9_init_7 ac_int g1 rfl g2 ?_
  obtain ⟨g3, h⟩ := h
  refine Z_put (T := TX9) (N := 3) (ci := 9) (t := 2) tyX9 0 dX9_init_9 hp0 g3 rfl (by decide) inX9 (by decide) (plX9_9 rfl rfl) rfl tyX9_ok nmX9 rfl (z_nf_a _ _) ?_
  obtain ⟨g4, h⟩ := h
  exact Z_return dX9_init_12 rfl g4 ⟨rfl, h⟩
theorem bk_X9_put {X : ZS} {n : Nat} {σ : ZM} {T : ZM → Prop} {p0 : Int} (hp0 : z_l p0 = (9, 3)) {x1 : Int} (h : (p0.toNat ≤ n) ∧ ZC X (rX9_clear n) mX9_clear [(2, p0)] n σ (zQv (fun σ3 => Z X (rX9_put n) mX9_put 9 [(2, p0), (1, x1), (9, 0), (1, x1), (9, 0), (0, 0)] [] n σ3 (zQv T)))) : ZC X (rX9_put n) mX9_put [(2, p0), (1, x1)] n σ (zQv T) := by
  show Z X _ _ 0 [(2, p0), (1, x1), (9, 0), (9, 0), (9, 0), (9, 0)] [] _ σ _
  refine Z_aload_n 0 dX9_put_0 rfl rfl ?_
  obtain ⟨g1, h⟩ := h
  refine Z_invV (T := TX9) (N := 3) (ci := 9) (M' := mX9_clear) (ρ' := rX9_clear n) (st := []) [] dX9_put_1 rfl rfl hp0 g1 (by decide) rfl rfl (kX9_clear.cl (Nat.le_of_ble_eq_true rfl) (Nat.le_refl _) (Nat.le_refl _) (Nat.le_of_ble_eq_true rfl) (Nat.le_of_ble_eq_true rfl) (Nat.le_of_ble_eq_true rfl)) (mlX9_13 rfl) iX9_clear sX9_clear h (z_kv (fun σ3 h => ?_))
  refine Z_lload_n 1 dX9_put_4 rfl rfl ?_
  refine Z_lstore_n (L' := [(2, p0), (1, x1), (9, 0), (1, x1), (9, 0), (9, 0)]) 3 dX9_put_5 rfl (Nat.le_of_ble_eq_true rfl) rfl ?_
  refine Z_iconst dX9_put_6 ?_
  refine Z_istore (L' := [(2, p0), (1, x1), (9, 0), (1, x1), (9, 0), (0, 0)]) dX9_put_7 (Nat.le_of_ble_eq_true rfl) rfl ?_
  exact Z_few (z_few_k (z_few_k (z_few_k (z_few_k (z_few_k (z_few_k z_few_0)))))) h
theorem bk_X9_put_9 {X : ZS} {n : Nat} {σ : ZM} {T : ZM → Prop} {p0 : Int} (hp0 : z_l p0 = (9, 3)) {x1 : Int} {x3 : Int} {x5 : Int} (h : (r32 x5) ∧ ((3 ≤ x5) → (r64 x1) ∧ (x1 ≠ -9223372036854775808) ∧ (p0.toNat ≤ n) ∧ ZC X (rX9_trim n) mX9_trim [(2, p0), (0, 3), (0, (if x1 < 0 then -1 else if 0 < x1 then 1 else 0))] n σ (zQv (fun σ6 => T σ6))) ∧ ((¬ (3 ≤ x5)) → (r64 x3) ∧ ((x3 = 0) → (r64 x1) ∧ (x1 ≠ -9223372036854775808) ∧ (p0.toNat ≤ n) ∧ ZC X (rX9_trim n) mX9_trim [(2, p0), (0, 3), (0, (if x1 < 0 then -1 else if 0 < x1 then 1 else 0))] n σ (zQv (fun σ12 => T σ12))) ∧ ((¬ x3 = 0) → (p0.toNat ≤ n) ∧ (σ p0 0 = (p0 + 1)) ∧ (r64 (Int.tmod x3 1000000000)) ∧ ((Int.tmod x3 1000000000) ≠ -9223372036854775808) ∧ ((p0 + 1).toNat ≤ n) ∧ (0 ≤ x5) ∧ (x5 < 12) ∧ Z X (rX9_put n) mX9_put 9 [(2, p0), (1, x1), (9, 0), (1, (Int.tdiv x3 1000000000)), (9, 0), (0, (x5 + 1))] [] n (z_up σ (p0 + 1) x5 (((Int.tmod x3 1000000000).natAbs : Nat) : Int)) (zQv T)))) : Z X (rX9_put n) mX9_put 9 [(2, p0), (1, x1), (9, 0), (1, x3), (9, 0), (0, x5)] [] n σ (zQv T) := by
  refine Z_iload dX9_put_9 rfl ?_
  refine Z_iconst dX9_put_11 ?_
  obtain ⟨g1, h⟩ := h
  refine Z_icmp_ge (tgt := 49) dX9_put_12 (by decide) g1 ⟨by decide, by decide⟩ (fun c => ?_) (fun c => ?_)
  · replace h := h.1 c
    refine Z_aload_n 0 dX9_put_49 rfl rfl ?_
    refine Z_iconst dX9_put_50 ?_
    refine Z_lload_n 1 dX9_put_51 rfl rfl ?_
    obtain ⟨g2, h⟩ := h
    obtain ⟨g3, h⟩ := h
    refine Z_jsgn dX9_put_52 (mlX9_24 rfl) g2 g3 (Nat.le_refl _) (Nat.le_of_ble_eq_true rfl) (Nat.le_of_ble_eq_true rfl) (Nat.le_of_ble_eq_true rfl) ?_
    obtain ⟨g4, h⟩ := h
    refine Z_invV (T := TX9) (N := 3) (ci := 9) (M' := mX9_trim) (ρ' := rX9_trim n) (st := []) [(0, 3), (0, (if x1 < 0 then -1 else if 0 < x1 then 1 else 0))] dX9_put_55 rfl rfl hp0 g4 (by decide) rfl rfl (kX9_trim.cl (Nat.le_of_ble_eq_true rfl) (Nat.le_refl _) (Nat.le_refl _) (Nat.le_of_ble_eq_true rfl) (Nat.le_of_ble_eq_true rfl) (Nat.le_of_ble_eq_true rfl)) (mlX9_30 rfl) iX9_trim sX9_trim h (z_kv (fun σ6 h => ?_))
    exact Z_return dX9_put_58 rfl rfl ⟨rfl, h⟩
  · replace h := h.2 c
    refine Z_lload_n 3 dX9_put_15 rfl rfl ?_
    refine Z_lconst (x := 0) dX9_put_16 rfl ?_
    obtain ⟨g7, h⟩ := h
    refine Z_lc_eq (tgt := 49) dX9_put_17 dX9_put_18 (by decide) g7 ⟨by decide, by decide⟩ (fun c => ?_) (fun c => ?_)
    · replace h := h.1 c
      refine Z_aload_n 0 dX9_put_49 rfl rfl ?_
      refine Z_iconst dX9_put_50 ?_
      refine Z_lload_n 1 dX9_put_51 rfl rfl ?_
      obtain ⟨g8, h⟩ := h
      obtain ⟨g9, h⟩ := h
      refine Z_jsgn dX9_put_52 (mlX9_24 rfl) g8 g9 (Nat.le_refl _) (Nat.le_of_ble_eq_true rfl) (Nat.le_of_ble_eq_true rfl) (Nat.le_of_ble_eq_true rfl) ?_
      obtain ⟨g10, h⟩ := h
      refine Z_invV (T := TX9) (N := 3) (ci := 9) (M' := mX9_trim) (ρ' := rX9_trim n) (st := []) [(0, 3), (0, (if x1 < 0 then -1 else if 0 < x1 then 1 else 0))] dX9_put_55 rfl rfl hp0 g10 (by decide) rfl rfl (kX9_trim.cl (Nat.le_of_ble_eq_true rfl) (Nat.le_refl _) (Nat.le_refl _) (Nat.le_of_ble_eq_true rfl) (Nat.le_of_ble_eq_true rfl) (Nat.le_of_ble_eq_true rfl)) (mlX9_30 rfl) iX9_trim sX9_trim h (z_kv (fun σ12 h => ?_))
      exact Z_return dX9_put_58 rfl rfl ⟨rfl, h⟩
    · replace h := h.2 c
      refine Z_aload_n 0 dX9_put_21 rfl rfl ?_
      obtain ⟨g13, h⟩ := h
      obtain ⟨g14, h⟩ := h
      refine Z_get (T := TX9) (N := 3) (ci := 9) (t := 2) 0 dX9_put_22 hp0 g13 rfl (by decide) inX9 (by decide) (flX9_9 rfl) rfl ?_
      refine Z_top g14 ?_
      refine Z_iload dX9_put_25 rfl ?_
      refine Z_lload_n 3 dX9_put_27 rfl rfl ?_
      refine Z_ldc2 (x := 1000000000) dX9_put_28 ctX9_16 rfl ?_
      refine Z_lrem dX9_put_31 g7 ⟨by decide, by decide⟩ (by decide) ?_
      obtain ⟨g15, h⟩ := h
      obtain ⟨g16, h⟩ := h
      refine Z_jabsl dX9_put_32 (mlX9_18 rfl) g15 g16 (Nat.le_refl _) (Nat.le_of_ble_eq_true rfl) (Nat.le_of_ble_eq_true rfl) (Nat.le_of_ble_eq_true rfl) ?_
      refine Z_l2i dX9_put_35 ?_
      obtain ⟨g17, h⟩ := h
      obtain ⟨g18, h⟩ := h
      obtain ⟨g19, h⟩ := h
      refine Z_iast dX9_put_36 (zo_9_0 hp0) g17 g18 g19 ?_
      refine Z_lload_n 3 dX9_put_37 rfl rfl ?_
      refine Z_ldc2 (x := 1000000000) dX9_put_38 ctX9_16 rfl ?_
      refine Z_ldiv dX9_put_41 g7 ⟨by decide, by decide⟩ (by decide) ?_
      refine Z_lstore_n (L' := [(2, p0), (1, x1), (9, 0), (1, (Int.tdiv x3 1000000000)), (9, 0), (0, x5)]) 3 dX9_put_42 rfl (Nat.le_of_ble_eq_true rfl) rfl ?_
      refine Z_iinc (L' := [(2, p0), (1, x1), (9, 0), (1, (Int.tdiv x3 1000000000)), (9, 0), (0, (x5 + 1))]) dX9_put_43 rfl (Nat.le_of_ble_eq_true rfl) rfl ?_
      refine Z_goto (tgt := 9) dX9_put_46 (by decide) ?_
      exact Z_few (z_few_k (z_few_k (z_few_k (z_few_k (z_few_k (z_few_k z_few_0)))))) h
theorem bk_X9_lowest {X : ZS} {σ : ZM} {T : Int → ZM → Prop} {p0 : Int} (hp0 : z_l p0 = (9, 3)) (h : (r32 (σ p0 2)) ∧ (Fix σ) ∧ (r32 (σ (p0 + 1) 0)) ∧ T ((σ p0 2) * (σ (p0 + 1) 0)) σ) : ZC X (rX9_lowest zN) mX9_lowest [(2, p0)] zN σ (zQl T) := by
  show Z X _ _ 0 [(2, p0)] [] _ σ _
  refine Z_aload_n 0 dX9_lowest_0 rfl rfl ?_
  refine Z_get (T := TX9) (N := 3) (ci := 9) (t := 0) 2 dX9_lowest_1 hp0 (z_leN hp0 (by decide)) rfl (by decide) inX9 (by decide) (flX9_34 rfl) rfl ?_
  obtain ⟨g1, h⟩ := h
  refine Z_i2l dX9_lowest_4 g1 ?_
  refine Z_aload_n 0 dX9_lowest_5 rfl rfl ?_
  obtain ⟨g2, h⟩ := h
  refine Z_get (T := TX9) (N := 3) (ci := 9) (t := 2) 0 dX9_lowest_6 hp0 (z_leN hp0 (by decide)) rfl (by decide) inX9 (by decide) (flX9_9 rfl) rfl ?_
  refine Z_top (y := (p0 + 1)) (Fix.get g2 hp0 0 1 (by decide +kernel)) ?_
  refine Z_iconst dX9_lowest_9 ?_
  refine Z_iald dX9_lowest_10 (zo_9_0 hp0) (z_leN (zo_9_0 hp0) (by decide)) (by decide) (by decide) ?_
  obtain ⟨g3, h⟩ := h
  refine Z_i2l dX9_lowest_11 g3 ?_
  refine Z_lmul dX9_lowest_12 ?_
  exact Z_lreturn dX9_lowest_13 rfl rfl ⟨rfl, h⟩
theorem bk_X9_copyFrom {X : ZS} {σ : ZM} {T : ZM → Prop} {p0 : Int} (hp0 : z_l p0 = (9, 3)) {p1 : Int} (hp1 : z_l p1 = (9, 3)) (h : (r32 (σ p0 1)) ∧ (r32 (σ p1 1)) ∧ Z X (rX9_copyFrom zN) mX9_copyFrom 14 [(2, p0), (2, p1), (0, (max (σ p0 1) (σ p1 1))), (0, 0)] [] zN σ (zQv T)) : ZC X (rX9_copyFrom zN) mX9_copyFrom [(2, p0), (2, p1)] zN σ (zQv T) := by
  show Z X _ _ 0 [(2, p0), (2, p1), (9, 0), (9, 0)] [] _ σ _
  refine Z_aload_n 0 dX9_copyFrom_0 rfl rfl ?_
  refine Z_get (T := TX9) (N := 3) (ci := 9) (t := 0) 1 dX9_copyFrom_1 hp0 (z_leN hp0 (by decide)) rfl (by decide) inX9 (by decide) (flX9_38 rfl) rfl ?_
  refine Z_aload_n 1 dX9_copyFrom_4 rfl rfl ?_
  refine Z_get (T := TX9) (N := 3) (ci := 9) (t := 0) 1 dX9_copyFrom_5 hp1 (z_leN hp1 (by decide)) rfl (by decide) inX9 (by decide) (flX9_38 rfl) rfl ?_
  obtain ⟨g1, h⟩ := h
  obtain ⟨g2, h⟩ := h
  refine Z_jmax dX9_copyFrom_8 (mlX9_41 rfl) g1 g2 (Nat.le_refl _) (Nat.le_of_ble_eq_true rfl) (Nat.le_of_ble_eq_true rfl) (Nat.le_of_ble_eq_true rfl) ?_
  refine Z_istore_n (L' := [(2, p0), (2, p1), (0, (max (σ p0 1) (σ p1 1))), (9, 0)]) 2 dX9_copyFrom_11 rfl (Nat.le_of_ble_eq_true rfl) rfl ?_
  refine Z_iconst dX9_copyFrom_12 ?_
  refine Z_istore_n (L' := [(2, p0), (2, p1), (0, (max (σ p0 1) (σ p1 1))), (0, 0)]) 3 dX9_copyFrom_13 rfl (Nat.le_of_ble_eq_true rfl) rfl ?_
  exact Z_few (z_few_k (z_few_k (z_few_k (z_few_k z_few_0)))) h
theorem bk_X9_copyFrom_14 {X : ZS} {σ : ZM} {T : ZM → Prop} {p0 : Int} (hp0 : z_l p0 = (9, 3)) {p1 : Int} (hp1 : z_l p1 = (9, 3)) {x2 : Int} {x3 : Int} (h : (r32 x3) ∧ (r32 x2) ∧ ((x2 ≤ x3) → T (z_up (z_up σ p0 1 (σ p1 1)) p0 2 ((z_up σ p0 1 (σ p1 1)) p1 2))) ∧ ((¬ (x2 ≤ x3)) → ((12 ≤ x3) → T (z_up (z_up σ p0 1 (σ p1 1)) p0 2 ((z_up σ p0 1 (σ p1 1)) p1 2))) ∧ ((¬ (12 ≤ x3)) → (Fix σ) ∧ (0 ≤ x3) ∧ (x3 < 12) ∧ Z X (rX9_copyFrom zN) mX9_copyFrom 14 [(2, p0), (2, p1), (0, x2), (0, (x3 + 1))] [] zN (z_up σ (p0 + 1) x3 (σ (p1 + 1) x3)) (zQv T)))) : Z X (rX9_copyFrom zN) mX9_copyFrom 14 [(2, p0), (2, p1), (0, x2), (0, x3)] [] zN σ (zQv T) := by
  refine Z_iload_n 3 dX9_copyFrom_14 rfl rfl ?_
  refine Z_iload_n 2 dX9_copyFrom_15 rfl rfl ?_
  obtain ⟨g1, h⟩ := h
  obtain ⟨g2, h⟩ := h
  refine Z_icmp_ge (tgt := 43) dX9_copyFrom_16 (by decide) g1 g2 (fun c => ?_) (fun c => ?_)
  · replace h := h.1 c
    refine Z_aload_n 0 dX9_copyFrom_43 rfl rfl ?_
    refine Z_aload_n 1 dX9_copyFrom_44 rfl rfl ?_
    refine Z_get (T := TX9) (N := 3) (ci := 9) (t := 0) 1 dX9_copyFrom_45 hp1 (z_leN hp1 (by decide)) rfl (by decide) inX9 (by decide) (flX9_38 rfl) rfl ?_
    refine Z_put (T := TX9) (N := 3) (ci := 9) (t := 0) tyX9 1 dX9_copyFrom_48 hp0 (z_leN hp0 (by decide)) rfl (by decide) inX9 (by decide) (plX9_38 rfl) rfl tyX9_ok nmX9 rfl (z_nf_i _) ?_
    refine Z_aload_n 0 dX9_copyFrom_51 rfl rfl ?_
    refine Z_aload_n 1 dX9_copyFrom_52 rfl rfl ?_
    refine Z_get (T := TX9) (N := 3) (ci := 9) (t := 0) 2 dX9_copyFrom_53 hp1 (z_leN hp1 (by decide)) rfl (by decide) inX9 (by decide) (flX9_34 rfl) rfl ?_
    refine Z_put (T := TX9) (N := 3) (ci := 9) (t := 0) tyX9 2 dX9_copyFrom_56 hp0 (z_leN hp0 (by decide)) rfl (by decide) inX9 (by decide) (plX9_34 rfl) rfl tyX9_ok nmX9 rfl (z_nf_i _) ?_
    exact Z_return dX9_copyFrom_59 rfl rfl ⟨rfl, h⟩
  · replace h := h.2 c
    refine Z_iload_n 3 dX9_copyFrom_19 rfl rfl ?_
    refine Z_bipush dX9_copyFrom_20 (by decide) ?_
    refine Z_icmp_ge (tgt := 43) dX9_copyFrom_22 (by decide) g1 ⟨by decide, by decide⟩ (fun c => ?_) (fun c => ?_)
    · replace h := h.1 c
      refine Z_aload_n 0 dX9_copyFrom_43 rfl rfl ?_
      refine Z_aload_n 1 dX9_copyFrom_44 rfl rfl ?_
      refine Z_get (T := TX9) (N := 3) (ci := 9) (t := 0) 1 dX9_copyFrom_45 hp1 (z_leN hp1 (by decide)) rfl (by decide) inX9 (by decide) (flX9_38 rfl) rfl ?_
      refine Z_put (T := TX9) (N := 3) (ci := 9) (t := 0) tyX9 1 dX9_copyFrom_48 hp0 (z_leN hp0 (by decide)) rfl (by decide) inX9 (by decide) (plX9_38 rfl) rfl tyX9_ok nmX9 rfl (z_nf_i _) ?_
      refine Z_aload_n 0 dX9_copyFrom_51 rfl rfl ?_
      refine Z_aload_n 1 dX9_copyFrom_52 rfl rfl ?_
      refine Z_get (T := TX9) (N := 3) (ci := 9) (t := 0) 2 dX9_copyFrom_53 hp1 (z_leN hp1 (by decide)) rfl (by decide) inX9 (by decide) (flX9_34 rfl) rfl ?_
      refine Z_put (T := TX9) (N := 3) (ci := 9) (t := 0) tyX9 2 dX9_copyFrom_56 hp0 (z_leN hp0 (by decide)) rfl (by decide) inX9 (by decide) (plX9_34 rfl) rfl tyX9_ok nmX9 rfl (z_nf_i _) ?_
      exact Z_return dX9_copyFrom_59 rfl rfl ⟨rfl, h⟩
    · replace h := h.2 c
      refine Z_aload_n 0 dX9_copyFrom_25 rfl rfl ?_
      obtain ⟨g3, h⟩ := h
      refine Z_get (T := TX9) (N := 3) (ci := 9) (t := 2) 0 dX9_copyFrom_26 hp0 (z_leN hp0 (by decide)) rfl (by decide) inX9 (by decide) (flX9_9 rfl) rfl ?_
      refine Z_top (y := (p0 + 1)) (Fix.get g3 hp0 0 1 (by decide +kernel)) ?_
      refine Z_iload_n 3 dX9_copyFrom_29 rfl rfl ?_
      refine Z_aload_n 1 dX9_copyFrom_30 rfl rfl ?_
      refine Z_get (T := TX9) (N := 3) (ci := 9) (t := 2) 0 dX9_copyFrom_31 hp1 (z_leN hp1 (by decide)) rfl (by decide) inX9 (by decide) (flX9_9 rfl) rfl ?_
      refine Z_top (y := (p1 + 1)) (Fix.get g3 hp1 0 1 (by decide +kernel)) ?_
      refine Z_iload_n 3 dX9_copyFrom_34 rfl rfl ?_
      obtain ⟨g4, h⟩ := h
      obtain ⟨g5, h⟩ := h
      refine Z_iald dX9_copyFrom_35 (zo_9_0 hp1) (z_leN (zo_9_0 hp1) (by decide)) g4 g5 ?_
      refine Z_iast dX9_copyFrom_36 (zo_9_0 hp0) (z_leN (zo_9_0 hp0) (by decide)) g4 g5 ?_
      refine Z_iinc (L' := [(2, p0), (2, p1), (0, x2), (0, (x3 + 1))]) dX9_copyFrom_37 rfl (Nat.le_of_ble_eq_true rfl) rfl ?_
      refine Z_goto (tgt := 14) dX9_copyFrom_40 (by decide) ?_
      exact Z_few (z_few_k (z_few_k (z_few_k (z_few_k z_few_0)))) h
theorem bk_X9_compareSize {X : ZS} {σ : ZM} {T : Int → ZM → Prop} {p0 : Int} (hp0 : z_l p0 = (9, 3)) {p1 : Int} (hp1 : z_l p1 = (9, 3)) (h : Z X (rX9_compareSize zN) mX9_compareSize 3 [(2, p0), (2, p1), (0, 11)] [] zN σ (zQi T)) : ZC X (rX9_compareSize zN) mX9_compareSize [(2, p0), (2, p1)] zN σ (zQi T) := by
  show Z X _ _ 0 [(2, p0), (2, p1), (9, 0)] [] _ σ _
  refine Z_bipush dX9_compareSize_0 (by decide) ?_
  refine Z_istore_n (L' := [(2, p0), (2, p1), (0, 11)]) 2 dX9_compareSize_2 rfl (Nat.le_of_ble_eq_true rfl) rfl ?_
  exact Z_few (z_few_k (z_few_k (z_few_k z_few_0))) h
theorem bk_X9_compareSize_3 {X : ZS} {σ : ZM} {T : Int → ZM → Prop} {p0 : Int} (hp0 : z_l p0 = (9, 3)) {p1 : Int} (hp1 : z_l p1 = (9, 3)) {x2 : Int} (h : (r32 x2) ∧ ((x2 < 0) → T 0 σ) ∧ ((¬ (x2 < 0)) → (Fix σ) ∧ (0 ≤ x2) ∧ (x2 < 12) ∧ (r32 (σ (p0 + 1) x2)) ∧ (r32 (σ (p1 + 1) x2)) ∧ (((σ (p0 + 1) x2) = (σ (p1 + 1) x2)) → Z X (rX9_compareSize zN) mX9_compareSize 3 [(2, p0), (2, p1), (0, (x2 + (-1)))] [] zN σ (zQi T)) ∧ ((¬ (σ (p0 + 1) x2) = (σ (p1 + 1) x2)) → (((σ (p0 + 1) x2) ≤ (σ (p1 + 1) x2)) → T (-1) σ) ∧ ((¬ ((σ (p0 + 1) x2) ≤ (σ (p1 + 1) x2))) → T 1 σ)))) : Z X (rX9_compareSize zN) mX9_compareSize 3 [(2, p0), (2, p1), (0, x2)] [] zN σ (zQi T) := by
  refine Z_iload_n 2 dX9_compareSize_3 rfl rfl ?_
  obtain ⟨g1, h⟩ := h
  refine Z_if_lt (tgt := 49) dX9_compareSize_4 (by decide) g1 (fun c => ?_) (fun c => ?_)
  · replace h := h.1 c
    refine Z_iconst dX9_compareSize_49 ?_
    exact Z_ireturn dX9_compareSize_50 rfl rfl ⟨rfl, h⟩
  · replace h := h.2 c
    refine Z_aload_n 0 dX9_compareSize_7 rfl rfl ?_
    obtain ⟨g2, h⟩ := h
    refine Z_get (T := TX9) (N := 3) (ci := 9) (t := 2) 0 dX9_compareSize_8 hp0 (z_leN hp0 (by decide)) rfl (by decide) inX9 (by decide) (flX9_9 rfl) rfl ?_
    refine Z_top (y := (p0 + 1)) (Fix.get g2 hp0 0 1 (by decide +kernel)) ?_
    refine Z_iload_n 2 dX9_compareSize_11 rfl rfl ?_
    obtain ⟨g3, h⟩ := h
    obtain ⟨g4, h⟩ := h
    refine Z_iald dX9_compareSize_12 (zo_9_0 hp0) (z_leN (zo_9_0 hp0) (by decide)) g3 g4 ?_
    refine Z_aload_n 1 dX9_compareSize_13 rfl rfl ?_
    refine Z_get (T := TX9) (N := 3) (ci := 9) (t := 2) 0 dX9_compareSize_14 hp1 (z_leN hp1 (by decide)) rfl (by decide) inX9 (by decide) (flX9_9 rfl) rfl ?_
    refine Z_top (y := (p1 + 1)) (Fix.get g2 hp1 0 1 (by decide +kernel)) ?_
    refine Z_iload_n 2 dX9_compareSize_17 rfl rfl ?_
    refine Z_iald dX9_compareSize_18 (zo_9_0 hp1) (z_leN (zo_9_0 hp1) (by decide)) g3 g4 ?_
    obtain ⟨g5, h⟩ := h
    obtain ⟨g6, h⟩ := h
    refine Z_icmp_eq (tgt := 43) dX9_compareSize_19 (by decide) g5 g6 (fun c => ?_) (fun c => ?_)
    · replace h := h.1 c
      refine Z_iinc (L' := [(2, p0), (2, p1), (0, (x2 + (-1)))]) dX9_compareSize_43 rfl (Nat.le_of_ble_eq_true rfl) rfl ?_
      refine Z_goto (tgt := 3) dX9_compareSize_46 (by decide) ?_
      exact Z_few (z_few_k (z_few_k (z_few_k z_few_0))) h
    · replace h := h.2 c
      refine Z_aload_n 0 dX9_compareSize_22 rfl rfl ?_
      refine Z_get (T := TX9) (N := 3) (ci := 9) (t := 2) 0 dX9_compareSize_23 hp0 (z_leN hp0 (by decide)) rfl (by decide) inX9 (by decide) (flX9_9 rfl) rfl ?_
      refine Z_top (y := (p0 + 1)) (Fix.get g2 hp0 0 1 (by decide +kernel)) ?_
      refine Z_iload_n 2 dX9_compareSize_26 rfl rfl ?_
      refine Z_iald dX9_compareSize_27 (zo_9_0 hp0) (z_leN (zo_9_0 hp0) (by decide)) g3 g4 ?_
      refine Z_aload_n 1 dX9_compareSize_28 rfl rfl ?_
      refine Z_get (T := TX9) (N := 3) (ci := 9) (t := 2) 0 dX9_compareSize_29 hp1 (z_leN hp1 (by decide)) rfl (by decide) inX9 (by decide) (flX9_9 rfl) rfl ?_
      refine Z_top (y := (p1 + 1)) (Fix.get g2 hp1 0 1 (by decide +kernel)) ?_
      refine Z_iload_n 2 dX9_compareSize_32 rfl rfl ?_
      refine Z_iald dX9_compareSize_33 (zo_9_0 hp1) (z_leN (zo_9_0 hp1) (by decide)) g3 g4 ?_
      refine Z_icmp_le (tgt := 41) dX9_compareSize_34 (by decide) g5 g6 (fun c => ?_) (fun c => ?_)
      · replace h := h.1 c
        refine Z_iconst dX9_compareSize_41 ?_
        exact Z_ireturn dX9_compareSize_42 rfl rfl ⟨rfl, h⟩
      · replace h := h.2 c
        refine Z_iconst dX9_compareSize_37 ?_
        refine Z_goto (tgt := 42) dX9_compareSize_38 (by decide) ?_
        exact Z_ireturn dX9_compareSize_42 rfl rfl ⟨rfl, h⟩
theorem bk_X9_multiply {X : ZS} {σ : ZM} {T : ZM → Prop} {p0 : Int} (hp0 : z_l p0 = (9, 3)) {p1 : Int} (hp1 : z_l p1 = (9, 3)) {p2 : Int} (hp2 : z_l p2 = (9, 3)) (h : ZC X (rX9_clear zN) mX9_clear [(2, p0)] zN σ (zQv (fun σ2 => Z X (rX9_multiply zN) mX9_multiply 6 [(2, p0), (2, p1), (2, p2), (0, 0), (9, 0), (9, 0), (9, 0), (9, 0), (9, 0), (9, 0), (9, 0)] [] zN σ2 (zQv T)))) : ZC X (rX9_multiply zN) mX9_multiply [(2, p0), (2, p1), (2, p2)] zN σ (zQv T) := by
  show Z X _ _ 0 [(2, p0), (2, p1), (2, p2), (9, 0), (9, 0), (9, 0), (9, 0), (9, 0), (9, 0), (9, 0), (9, 0)] [] _ σ _
  refine Z_aload_n 0 dX9_multiply_0 rfl rfl ?_
  refine Z_invV (T := TX9) (N := 3) (ci := 9) (M' := mX9_clear) (ρ' := rX9_clear zN) (st := []) [] dX9_multiply_1 rfl rfl hp0 (z_leN hp0 (by decide)) (by decide) rfl rfl (kX9_clear.cl (Nat.le_of_ble_eq_true rfl) (Nat.le_refl _) (Nat.le_refl _) (Nat.le_of_ble_eq_true rfl) (Nat.le_of_ble_eq_true rfl) (Nat.le_of_ble_eq_true rfl)) (mlX9_13 rfl) iX9_clear sX9_clear h (z_kv (fun σ2 h => ?_))
  refine Z_iconst dX9_multiply_4 ?_
  refine Z_istore_n (L' := [(2, p0), (2, p1), (2, p2), (0, 0), (9, 0), (9, 0), (9, 0), (9, 0), (9, 0), (9, 0), (9, 0)]) 3 dX9_multiply_5 rfl (Nat.le_of_ble_eq_true rfl) rfl ?_
  exact Z_few (z_few_k (z_few_k (z_few_k (z_few_k (z_few_k (z_few_k (z_few_k (z_few_k (z_few_k (z_few_k (z_few_k z_few_0))))))))))) h
theorem bk_X9_multiply_6 {X : ZS} {σ : ZM} {T : ZM → Prop} {p0 : Int} (hp0 : z_l p0 = (9, 3)) {p1 : Int} (hp1 : z_l p1 = (9, 3)) {p2 : Int} (hp2 : z_l p2 = (9, 3)) {x3 : Int} (h : (r32 x3) ∧ (r32 (σ p1 1)) ∧ (((σ p1 1) ≤ x3) → ZC X (rX9_trim zN) mX9_trim [(2, p0), (0, ((σ p1 1) + (σ p2 1))), (0, ((σ p1 2) * (σ p2 2)))] zN σ (zQv (fun σ4 => T σ4))) ∧ ((¬ ((σ p1 1) ≤ x3)) → (Fix σ) ∧ (0 ≤ x3) ∧ (x3 < 12) ∧ (r32 (σ (p1 + 1) x3)) ∧ Z X (rX9_multiply zN) mX9_multiply 29 [(2, p0), (2, p1), (2, p2), (0, x3), (1, (σ (p1 + 1) x3)), (9, 0), (1, 0), (9, 0), (0, 0), (9, 0), (9, 0)] [] zN σ (zQv T))) : Z X (rX9_multiply zN) mX9_multiply 6 [(2, p0), (2, p1), (2, p2), (0, x3), (9, 0), (9, 0), (9, 0), (9, 0), (9, 0), (9, 0), (9, 0)] [] zN σ (zQv T) := by
  refine Z_iload_n 3 dX9_multiply_6 rfl rfl ?_
  refine Z_aload_n 1 dX9_multiply_7 rfl rfl ?_
  refine Z_get (T := TX9) (N := 3) (ci := 9) (t := 0) 1 dX9_multiply_8 hp1 (z_leN hp1 (by decide)) rfl (by decide) inX9 (by decide) (flX9_38 rfl) rfl ?_
  obtain ⟨g1, h⟩ := h
  obtain ⟨g2, h⟩ := h
  refine Z_icmp_ge (tgt := 138) dX9_multiply_11 (by decide) g1 g2 (fun c => ?_) (fun c => ?_)
  · replace h := h.1 c
    refine Z_aload_n 0 dX9_multiply_138 rfl rfl ?_
    refine Z_aload_n 1 dX9_multiply_139 rfl rfl ?_
    refine Z_get (T := TX9) (N := 3) (ci := 9) (t := 0) 1 dX9_multiply_140 hp1 (z_leN hp1 (by decide)) rfl (by decide) inX9 (by decide) (flX9_38 rfl) rfl ?_
    refine Z_aload_n 2 dX9_multiply_143 rfl rfl ?_
    refine Z_get (T := TX9) (N := 3) (ci := 9) (t := 0) 1 dX9_multiply_144 hp2 (z_leN hp2 (by decide)) rfl (by decide) inX9 (by decide) (flX9_38 rfl) rfl ?_
    refine Z_iadd dX9_multiply_147 ?_
    refine Z_aload_n 1 dX9_multiply_148 rfl rfl ?_
    refine Z_get (T := TX9) (N := 3) (ci := 9) (t := 0) 2 dX9_multiply_149 hp1 (z_leN hp1 (by decide)) rfl (by decide) inX9 (by decide) (flX9_34 rfl) rfl ?_
    refine Z_aload_n 2 dX9_multiply_152 rfl rfl ?_
    refine Z_get (T := TX9) (N := 3) (ci := 9) (t := 0) 2 dX9_multiply_153 hp2 (z_leN hp2 (by decide)) rfl (by decide) inX9 (by decide) (flX9_34 rfl) rfl ?_
    refine Z_imul dX9_multiply_156 ?_
    refine Z_invV (T := TX9) (N := 3) (ci := 9) (M' := mX9_trim) (ρ' := rX9_trim zN) (st := []) [(0, ((σ p1 1) + (σ p2 1))), (0, ((σ p1 2) * (σ p2 2)))] dX9_multiply_157 rfl rfl hp0 (z_leN hp0 (by decide)) (by decide) rfl rfl (kX9_trim.cl (Nat.le_of_ble_eq_true rfl) (Nat.le_refl _) (Nat.le_refl _) (Nat.le_of_ble_eq_true rfl) (Nat.le_of_ble_eq_true rfl) (Nat.le_of_ble_eq_true rfl)) (mlX9_30 rfl) iX9_trim sX9_trim h (z_kv (fun σ4 h => ?_))
    exact Z_return dX9_multiply_160 rfl rfl ⟨rfl, h⟩
  · replace h := h.2 c
    refine Z_aload_n 1 dX9_multiply_14 rfl rfl ?_
    obtain ⟨g5, h⟩ := h
    refine Z_get (T := TX9) (N := 3) (ci := 9) (t := 2) 0 dX9_multiply_15 hp1 (z_leN hp1 (by decide)) rfl (by decide) inX9 (by decide) (flX9_9 rfl) rfl ?_
    refine Z_top (y := (p1 + 1)) (Fix.get g5 hp1 0 1 (by decide +kernel)) ?_
    refine Z_iload_n 3 dX9_multiply_18 rfl rfl ?_
    obtain ⟨g6, h⟩ := h
    obtain ⟨g7, h⟩ := h
    refine Z_iald dX9_multiply_19 (zo_9_0 hp1) (z_leN (zo_9_0 hp1) (by decide)) g6 g7 ?_
    obtain ⟨g8, h⟩ := h
    refine Z_i2l dX9_multiply_20 g8 ?_
    refine Z_lstore (L' := [(2, p0), (2, p1), (2, p2), (0, x3), (1, (σ (p1 + 1) x3)), (9, 0), (9, 0), (9, 0), (9, 0), (9, 0), (9, 0)]) dX9_multiply_21 (Nat.le_of_ble_eq_true rfl) rfl ?_
    refine Z_lconst (x := 0) dX9_multiply_23 rfl ?_
    refine Z_lstore (L' := [(2, p0), (2, p1), (2, p2), (0, x3), (1, (σ (p1 + 1) x3)), (9, 0), (1, 0), (9, 0), (9, 0), (9, 0), (9, 0)]) dX9_multiply_24 (Nat.le_of_ble_eq_true rfl) rfl ?_
    refine Z_iconst dX9_multiply_26 ?_
    refine Z_istore (L' := [(2, p0), (2, p1), (2, p2), (0, x3), (1, (σ (p1 + 1) x3)), (9, 0), (1, 0), (9, 0), (0, 0), (9, 0), (9, 0)]) dX9_multiply_27 (Nat.le_of_ble_eq_true rfl) rfl ?_
    exact Z_few (z_few_k (z_few_k (z_few_k (z_few_k (z_few_k (z_few_k (z_few_k (z_few_k (z_few_k (z_few_k (z_few_k z_few_0))))))))))) h
theorem bk_X9_multiply_29 {X : ZS} {σ : ZM} {T : ZM → Prop} {p0 : Int} (hp0 : z_l p0 = (9, 3)) {p1 : Int} (hp1 : z_l p1 = (9, 3)) {p2 : Int} (hp2 : z_l p2 = (9, 3)) {x3 : Int} {x4 : Int} {x6 : Int} {x8 : Int} (h : (r32 x8) ∧ (r32 (σ p2 1)) ∧ (((σ p2 1) ≤ x8) → (r32 (x3 + (σ p2 1))) ∧ ((12 ≤ (x3 + (σ p2 1))) → Z X (rX9_multiply zN) mX9_multiply 6 [(2, p0), (2, p1), (2, p2), (0, (x3 + 1)), (9, 0), (9, 0), (9, 0), (9, 0), (9, 0), (9, 0), (9, 0)] [] zN σ (zQv T)) ∧ ((¬ (12 ≤ (x3 + (σ p2 1)))) → (Fix σ) ∧ (0 ≤ (x3 + (σ p2 1))) ∧ ((x3 + (σ p2 1)) < 12) ∧ Z X (rX9_multiply zN) mX9_multiply 6 [(2, p0), (2, p1), (2, p2), (0, (x3 + 1)), (9, 0), (9, 0), (9, 0), (9, 0), (9, 0), (9, 0), (9, 0)] [] zN (z_up σ (p0 + 1) (x3 + (σ p2 1)) x6) (zQv T))) ∧ ((¬ ((σ p2 1) ≤ x8)) → (r32 (x3 + x8)) ∧ ((12 ≤ (x3 + x8)) → (r32 (x3 + (σ p2 1))) ∧ ((12 ≤ (x3 + (σ p2 1))) → Z X (rX9_multiply zN) mX9_multiply 6 [(2, p0), (2, p1), (2, p2), (0, (x3 + 1)), (9, 0), (9, 0), (9, 0), (9, 0), (9, 0), (9, 0), (9, 0)] [] zN σ (zQv T)) ∧ ((¬ (12 ≤ (x3 + (σ p2 1)))) → (Fix σ) ∧ (0 ≤ (x3 + (σ p2 1))) ∧ ((x3 + (σ p2 1)) < 12) ∧ Z X (rX9_multiply zN) mX9_multiply 6 [(2, p0), (2, p1), (2, p2), (0, (x3 + 1)), (9, 0), (9, 0), (9, 0), (9, 0), (9, 0), (9, 0), (9, 0)] [] zN (z_up σ (p0 + 1) (x3 + (σ p2 1)) x6) (zQv T))) ∧ ((¬ (12 ≤ (x3 + x8))) → (Fix σ) ∧ (0 ≤ (x3 + x8)) ∧ ((x3 + x8) < 12) ∧ (r32 (σ (p0 + 1) (x3 + x8))) ∧ (0 ≤ x8) ∧ (x8 < 12) ∧ (r32 (σ (p2 + 1) x8)) ∧ (r64 (((σ (p0 + 1) (x3 + x8)) + (x4 * (σ (p2 + 1) x8))) + x6)) ∧ Z X (rX9_multiply zN) mX9_multiply 29 [(2, p0), (2, p1), (2, p2), (0, x3), (1, x4), (9, 0), (1, (Int.tdiv (((σ (p0 + 1) (x3 + x8)) + (x4 * (σ (p2 + 1) x8))) + x6) 1000000000)), (9, 0), (0, (x8 + 1)), (9, 0), (9, 0)] [] zN (z_up σ (p0 + 1) (x3 + x8) ((((σ (p0 + 1) (x3 + x8)) + (x4 * (σ (p2 + 1) x8))) + x6) - ((Int.tdiv (((σ (p0 + 1) (x3 + x8)) + (x4 * (σ (p2 + 1) x8))) + x6) 1000000000) * 1000000000))) (zQv T)))) : Z X (rX9_multiply zN) mX9_multiply 29 [(2, p0), (2, p1), (2, p2), (0, x3), (1, x4), (9, 0), (1, x6), (9, 0), (0, x8), (9, 0), (9, 0)] [] zN σ (zQv T) := by
  refine Z_iload dX9_multiply_29 rfl ?_
  refine Z_aload_n 2 dX9_multiply_31 rfl rfl ?_
  refine Z_get (T := TX9) (N := 3) (ci := 9) (t := 0) 1 dX9_multiply_32 hp2 (z_leN hp2 (by decide)) rfl (by decide) inX9 (by decide) (flX9_38 rfl) rfl ?_
  obtain ⟨g1, h⟩ := h
  obtain ⟨g2, h⟩ := h
  refine Z_icmp_ge (tgt := 107) dX9_multiply_35 (by decide) g1 g2 (fun c => ?_) (fun c => ?_)
  · replace h := h.1 c
    refine Z_iload_n 3 dX9_multiply_107 rfl rfl ?_
    refine Z_aload_n 2 dX9_multiply_108 rfl rfl ?_
    refine Z_get (T := TX9) (N := 3) (ci := 9) (t := 0) 1 dX9_multiply_109 hp2 (z_leN hp2 (by decide)) rfl (by decide) inX9 (by decide) (flX9_38 rfl) rfl ?_
    refine Z_iadd dX9_multiply_112 ?_
    refine Z_bipush dX9_multiply_113 (by decide) ?_
    obtain ⟨g3, h⟩ := h
    refine Z_icmp_ge (tgt := 132) dX9_multiply_115 (by decide) g3 ⟨by decide, by decide⟩ (fun c => ?_) (fun c => ?_)
    · replace h := h.1 c
      refine Z_iinc (L' := [(2, p0), (2, p1), (2, p2), (0, (x3 + 1)), (1, x4), (9, 0), (1, x6), (9, 0), (0, x8), (9, 0), (9, 0)]) dX9_multiply_132 rfl (Nat.le_of_ble_eq_true rfl) rfl ?_
      refine Z_goto (tgt := 6) dX9_multiply_135 (by decide) ?_
      exact Z_few (z_few_k (z_few_k (z_few_k (z_few_k (z_few_d (z_few_k (z_few_d (z_few_k (z_few_d (z_few_k (z_few_k z_few_0))))))))))) h
    · replace h := h.2 c
      refine Z_aload_n 0 dX9_multiply_118 rfl rfl ?_
      obtain ⟨g4, h⟩ := h
      refine Z_get (T := TX9) (N := 3) (ci := 9) (t := 2) 0 dX9_multiply_119 hp0 (z_leN hp0 (by decide)) rfl (by decide) inX9 (by decide) (flX9_9 rfl) rfl ?_
      refine Z_top (y := (p0 + 1)) (Fix.get g4 hp0 0 1 (by decide +kernel)) ?_
      refine Z_iload_n 3 dX9_multiply_122 rfl rfl ?_
      refine Z_aload_n 2 dX9_multiply_123 rfl rfl ?_
      refine Z_get (T := TX9) (N := 3) (ci := 9) (t := 0) 1 dX9_multiply_124 hp2 (z_leN hp2 (by decide)) rfl (by decide) inX9 (by decide) (flX9_38 rfl) rfl ?_
      refine Z_iadd dX9_multiply_127 ?_
      refine Z_lload dX9_multiply_128 rfl ?_
      refine Z_l2i dX9_multiply_130 ?_
      obtain ⟨g5, h⟩ := h
      obtain ⟨g6, h⟩ := h
      refine Z_iast dX9_multiply_131 (zo_9_0 hp0) (z_leN (zo_9_0 hp0) (by decide)) g5 g6 ?_
      refine Z_iinc (L' := [(2, p0), (2, p1), (2, p2), (0, (x3 + 1)), (1, x4), (9, 0), (1, x6), (9, 0), (0, x8), (9, 0), (9, 0)]) dX9_multiply_132 rfl (Nat.le_of_ble_eq_true rfl) rfl ?_
      refine Z_goto (tgt := 6) dX9_multiply_135 (by decide) ?_
      exact Z_few (z_few_k (z_few_k (z_few_k (z_few_k (z_few_d (z_few_k (z_few_d (z_few_k (z_few_d (z_few_k (z_few_k z_few_0))))))))))) h
  · replace h := h.2 c
    refine Z_iload_n 3 dX9_multiply_38 rfl rfl ?_
    refine Z_iload dX9_multiply_39 rfl ?_
    refine Z_iadd dX9_multiply_41 ?_
    refine Z_bipush dX9_multiply_42 (by decide) ?_
    obtain ⟨g7, h⟩ := h
    refine Z_icmp_ge (tgt := 107) dX9_multiply_44 (by decide) g7 ⟨by decide, by decide⟩ (fun c => ?_) (fun c => ?_)
    · replace h := h.1 c
      refine Z_iload_n 3 dX9_multiply_107 rfl rfl ?_
      refine Z_aload_n 2 dX9_multiply_108 rfl rfl ?_
      refine Z_get (T := TX9) (N := 3) (ci := 9) (t := 0) 1 dX9_multiply_109 hp2 (z_leN hp2 (by decide)) rfl (by decide) inX9 (by decide) (flX9_38 rfl) rfl ?_
      refine Z_iadd dX9_multiply_112 ?_
      refine Z_bipush dX9_multiply_113 (by decide) ?_
      obtain ⟨g8, h⟩ := h
      refine Z_icmp_ge (tgt := 132) dX9_multiply_115 (by decide) g8 ⟨by decide, by decide⟩ (fun c => ?_) (fun c => ?_)
      · replace h := h.1 c
        refine Z_iinc (L' := [(2, p0), (2, p1), (2, p2), (0, (x3 + 1)), (1, x4), (9, 0), (1, x6), (9, 0), (0, x8), (9, 0), (9, 0)]) dX9_multiply_132 rfl (Nat.le_of_ble_eq_true rfl) rfl ?_
        refine Z_goto (tgt := 6) dX9_multiply_135 (by decide) ?_
        exact Z_few (z_few_k (z_few_k (z_few_k (z_few_k (z_few_d (z_few_k (z_few_d (z_few_k (z_few_d (z_few_k (z_few_k z_few_0))))))))))) h
      · replace h := h.2 c
        refine Z_aload_n 0 dX9_multiply_118 rfl rfl ?_
        obtain ⟨g9, h⟩ := h
        refine Z_get (T := TX9) (N := 3) (ci := 9) (t := 2) 0 dX9_multiply_119 hp0 (z_leN hp0 (by decide)) rfl (by decide) inX9 (by decide) (flX9_9 rfl) rfl ?_
        refine Z_top (y := (p0 + 1)) (Fix.get g9 hp0 0 1 (by decide +kernel)) ?_
        refine Z_iload_n 3 dX9_multiply_122 rfl rfl ?_
        refine Z_aload_n 2 dX9_multiply_123 rfl rfl ?_
        refine Z_get (T := TX9) (N := 3) (ci := 9) (t := 0) 1 dX9_multiply_124 hp2 (z_leN hp2 (by decide)) rfl (by decide) inX9 (by decide) (flX9_38 rfl) rfl ?_
        refine Z_iadd dX9_multiply_127 ?_
        refine Z_lload dX9_multiply_128 rfl ?_
        refine Z_l2i dX9_multiply_130 ?_
        obtain ⟨g10, h⟩ := h
        obtain ⟨g11, h⟩ := h
        refine Z_iast dX9_multiply_131 (zo_9_0 hp0) (z_leN (zo_9_0 hp0) (by decide)) g10 g11 ?_
        refine Z_iinc (L' := [(2, p0), (2, p1), (2, p2), (0, (x3 + 1)), (1, x4), (9, 0), (1, x6), (9, 0), (0, x8), (9, 0), (9, 0)]) dX9_multiply_132 rfl (Nat.le_of_ble_eq_true rfl) rfl ?_
        refine Z_goto (tgt := 6) dX9_multiply_135 (by decide) ?_
        exact Z_few (z_few_k (z_few_k (z_few_k (z_few_k (z_few_d (z_few_k (z_few_d (z_few_k (z_few_d (z_few_k (z_few_k z_few_0))))))))))) h
    · replace h := h.2 c
      refine Z_aload_n 0 dX9_multiply_47 rfl rfl ?_
      obtain ⟨g12, h⟩ := h
      refine Z_get (T := TX9) (N := 3) (ci := 9) (t := 2) 0 dX9_multiply_48 hp0 (z_leN hp0 (by decide)) rfl (by decide) inX9 (by decide) (flX9_9 rfl) rfl ?_
      refine Z_top (y := (p0 + 1)) (Fix.get g12 hp0 0 1 (by decide +kernel)) ?_
      refine Z_iload_n 3 dX9_multiply_51 rfl rfl ?_
      refine Z_iload dX9_multiply_52 rfl ?_
      refine Z_iadd dX9_multiply_54 ?_
      obtain ⟨g13, h⟩ := h
      obtain ⟨g14, h⟩ := h
      refine Z_iald dX9_multiply_55 (zo_9_0 hp0) (z_leN (zo_9_0 hp0) (by decide)) g13 g14 ?_
      obtain ⟨g15, h⟩ := h
      refine Z_i2l dX9_multiply_56 g15 ?_
      refine Z_lload dX9_multiply_57 rfl ?_
      refine Z_aload_n 2 dX9_multiply_59 rfl rfl ?_
      refine Z_get (T := TX9) (N := 3) (ci := 9) (t := 2) 0 dX9_multiply_60 hp2 (z_leN hp2 (by decide)) rfl (by decide) inX9 (by decide) (flX9_9 rfl) rfl ?_
      refine Z_top (y := (p2 + 1)) (Fix.get g12 hp2 0 1 (by decide +kernel)) ?_
      refine Z_iload dX9_multiply_63 rfl ?_
      obtain ⟨g16, h⟩ := h
      obtain ⟨g17, h⟩ := h
      refine Z_iald dX9_multiply_65 (zo_9_0 hp2) (z_leN (zo_9_0 hp2) (by decide)) g16 g17 ?_
      obtain ⟨g18, h⟩ := h
      refine Z_i2l dX9_multiply_66 g18 ?_
      refine Z_lmul dX9_multiply_67 ?_
      refine Z_ladd dX9_multiply_68 ?_
      refine Z_lload dX9_multiply_69 rfl ?_
      refine Z_ladd dX9_multiply_71 ?_
      refine Z_lstore (L' := [(2, p0), (2, p1), (2, p2), (0, x3), (1, x4), (9, 0), (1, x6), (9, 0), (0, x8), (1, (((σ (p0 + 1) (x3 + x8)) + (x4 * (σ (p2 + 1) x8))) + x6)), (9, 0)]) dX9_multiply_72 (Nat.le_of_ble_eq_true rfl) rfl ?_
      refine Z_lload dX9_multiply_74 rfl ?_
      refine Z_ldc2 (x := 1000000000) dX9_multiply_76 ctX9_16 rfl ?_
      obtain ⟨g19, h⟩ := h
      refine Z_ldiv dX9_multiply_79 g19 ⟨by decide, by decide⟩ (by decide) ?_
      refine Z_lstore (L' := [(2, p0), (2, p1), (2, p2), (0, x3), (1, x4), (9, 0), (1, (Int.tdiv (((σ (p0 + 1) (x3 + x8)) + (x4 * (σ (p2 + 1) x8))) + x6) 1000000000)), (9, 0), (0, x8), (1, (((σ (p0 + 1) (x3 + x8)) + (x4 * (σ (p2 + 1) x8))) + x6)), (9, 0)]) dX9_multiply_80 (Nat.le_of_ble_eq_true rfl) rfl ?_
      refine Z_aload_n 0 dX9_multiply_82 rfl rfl ?_
      refine Z_get (T := TX9) (N := 3) (ci := 9) (t := 2) 0 dX9_multiply_83 hp0 (z_leN hp0 (by decide)) rfl (by decide) inX9 (by decide) (flX9_9 rfl) rfl ?_
      refine Z_top (y := (p0 + 1)) (Fix.get g12 hp0 0 1 (by decide +kernel)) ?_
      refine Z_iload_n 3 dX9_multiply_86 rfl rfl ?_
      refine Z_iload dX9_multiply_87 rfl ?_
      refine Z_iadd dX9_multiply_89 ?_
      refine Z_lload dX9_multiply_90 rfl ?_
      refine Z_lload dX9_multiply_92 rfl ?_
      refine Z_ldc2 (x := 1000000000) dX9_multiply_94 ctX9_16 rfl ?_
      refine Z_lmul dX9_multiply_97 ?_
      refine Z_lsub dX9_multiply_98 ?_
      refine Z_l2i dX9_multiply_99 ?_
      refine Z_iast dX9_multiply_100 (zo_9_0 hp0) (z_leN (zo_9_0 hp0) (by decide)) g13 g14 ?_
      refine Z_iinc (L' := [(2, p0), (2, p1), (2, p2), (0, x3), (1, x4), (9, 0), (1, (Int.tdiv (((σ (p0 + 1) (x3 + x8)) + (x4 * (σ (p2 + 1) x8))) + x6) 1000000000)), (9, 0), (0, (x8 + 1)), (1, (((σ (p0 + 1) (x3 + x8)) + (x4 * (σ (p2 + 1) x8))) + x6)), (9, 0)]) dX9_multiply_101 rfl (Nat.le_of_ble_eq_true rfl) rfl ?_
      refine Z_goto (tgt := 29) dX9_multiply_104 (by decide) ?_
      exact Z_few (z_few_k (z_few_k (z_few_k (z_few_k (z_few_k (z_few_k (z_few_k (z_few_k (z_few_k (z_few_d (z_few_k z_few_0))))))))))) h
theorem bk_X9_addTimes {X : ZS} {σ : ZM} {T : ZM → Prop} {p0 : Int} (hp0 : z_l p0 = (9, 3)) {p1 : Int} (hp1 : z_l p1 = (9, 3)) {x2 : Int} (h : (r32 (σ p0 1)) ∧ (r32 (σ p1 1)) ∧ (r32 ((max (σ p0 1) (σ p1 1)) + 2)) ∧ (r32 x2) ∧ (r32 (σ p1 2)) ∧ Z X (rX9_addTimes zN) mX9_addTimes 35 [(2, p0), (2, p1), (9, 0), (0, (min 12 ((max (σ p0 1) (σ p1 1)) + 2))), (1, (x2 * (σ p1 2))), (9, 0), (1, 0), (9, 0), (0, 0), (9, 0), (9, 0), (9, 0), (9, 0)] [] zN σ (zQv T)) : ZC X (rX9_addTimes zN) mX9_addTimes [(2, p0), (2, p1), (0, x2)] zN σ (zQv T) := by
  show Z X _ _ 0 [(2, p0), (2, p1), (0, x2), (9, 0), (9, 0), (9, 0), (9, 0), (9, 0), (9, 0), (9, 0), (9, 0), (9, 0), (9, 0)] [] _ σ _
  refine Z_bipush dX9_addTimes_0 (by decide) ?_
  refine Z_aload_n 0 dX9_addTimes_2 rfl rfl ?_
  refine Z_get (T := TX9) (N := 3) (ci := 9) (t := 0) 1 dX9_addTimes_3 hp0 (z_leN hp0 (by decide)) rfl (by decide) inX9 (by decide) (flX9_38 rfl) rfl ?_
  refine Z_aload_n 1 dX9_addTimes_6 rfl rfl ?_
  refine Z_get (T := TX9) (N := 3) (ci := 9) (t := 0) 1 dX9_addTimes_7 hp1 (z_leN hp1 (by decide)) rfl (by decide) inX9 (by decide) (flX9_38 rfl) rfl ?_
  obtain ⟨g1, h⟩ := h
  obtain ⟨g2, h⟩ := h
  refine Z_jmax dX9_addTimes_10 (mlX9_41 rfl) g1 g2 (Nat.le_refl _) (Nat.le_of_ble_eq_true rfl) (Nat.le_of_ble_eq_true rfl) (Nat.le_of_ble_eq_true rfl) ?_
  refine Z_iconst dX9_addTimes_13 ?_
  refine Z_iadd dX9_addTimes_14 ?_
  obtain ⟨g3, h⟩ := h
  refine Z_jmin dX9_addTimes_15 (mlX9_45 rfl) ⟨by decide, by decide⟩ g3 (Nat.le_refl _) (Nat.le_of_ble_eq_true rfl) (Nat.le_of_ble_eq_true rfl) (Nat.le_of_ble_eq_true rfl) ?_
  refine Z_istore_n (L' := [(2, p0), (2, p1), (0, x2), (0, (min 12 ((max (σ p0 1) (σ p1 1)) + 2))), (9, 0), (9, 0), (9, 0), (9, 0), (9, 0), (9, 0), (9, 0), (9, 0), (9, 0)]) 3 dX9_addTimes_18 rfl (Nat.le_of_ble_eq_true rfl) rfl ?_
  refine Z_iload_n 2 dX9_addTimes_19 rfl rfl ?_
  obtain ⟨g4, h⟩ := h
  refine Z_i2l dX9_addTimes_20 g4 ?_
  refine Z_aload_n 1 dX9_addTimes_21 rfl rfl ?_
  refine Z_get (T := TX9) (N := 3) (ci := 9) (t := 0) 2 dX9_addTimes_22 hp1 (z_leN hp1 (by decide)) rfl (by decide) inX9 (by decide) (flX9_34 rfl) rfl ?_
  obtain ⟨g5, h⟩ := h
  refine Z_i2l dX9_addTimes_25 g5 ?_
  refine Z_lmul dX9_addTimes_26 ?_
  refine Z_lstore (L' := [(2, p0), (2, p1), (0, x2), (0, (min 12 ((max (σ p0 1) (σ p1 1)) + 2))), (1, (x2 * (σ p1 2))), (9, 0), (9, 0), (9, 0), (9, 0), (9, 0), (9, 0), (9, 0), (9, 0)]) dX9_addTimes_27 (Nat.le_of_ble_eq_true rfl) rfl ?_
  refine Z_lconst (x := 0) dX9_addTimes_29 rfl ?_
  refine Z_lstore (L' := [(2, p0), (2, p1), (0, x2), (0, (min 12 ((max (σ p0 1) (σ p1 1)) + 2))), (1, (x2 * (σ p1 2))), (9, 0), (1, 0), (9, 0), (9, 0), (9, 0), (9, 0), (9, 0), (9, 0)]) dX9_addTimes_30 (Nat.le_of_ble_eq_true rfl) rfl ?_
  refine Z_iconst dX9_addTimes_32 ?_
  refine Z_istore (L' := [(2, p0), (2, p1), (0, x2), (0, (min 12 ((max (σ p0 1) (σ p1 1)) + 2))), (1, (x2 * (σ p1 2))), (9, 0), (1, 0), (9, 0), (0, 0), (9, 0), (9, 0), (9, 0), (9, 0)]) dX9_addTimes_33 (Nat.le_of_ble_eq_true rfl) rfl ?_
  exact Z_few (z_few_k (z_few_k (z_few_d (z_few_k (z_few_k (z_few_k (z_few_k (z_few_k (z_few_k (z_few_k (z_few_k (z_few_k (z_few_k z_few_0))))))))))))) h
theorem bk_X9_addTimes_35 {X : ZS} {σ : ZM} {T : ZM → Prop} {p0 : Int} (hp0 : z_l p0 = (9, 3)) {p1 : Int} (hp1 : z_l p1 = (9, 3)) {x3 : Int} {x4 : Int} {x6 : Int} {x8 : Int} (h : (r32 x8) ∧ (r32 x3) ∧ ((x3 ≤ x8) → (r64 x6) ∧ ((0 ≤ x6) → ((0 ≤ x6) → ZC X (rX9_trim zN) mX9_trim [(2, p0), (0, x3), (0, 1)] zN σ (zQv (fun σ5 => T σ5))) ∧ ((¬ (0 ≤ x6)) → ZC X (rX9_trim zN) mX9_trim [(2, p0), (0, x3), (0, (-1))] zN σ (zQv (fun σ7 => T σ7)))) ∧ ((¬ (0 ≤ x6)) → ZC X (rX9_complement zN) mX9_complement [(2, p0), (0, x3)] zN σ (zQv (fun σ9 => ((0 ≤ x6) → ZC X (rX9_trim zN) mX9_trim [(2, p0), (0, x3), (0, 1)] zN σ9 (zQv (fun σ11 => T σ11))) ∧ ((¬ (0 ≤ x6)) → ZC X (rX9_trim zN) mX9_trim [(2, p0), (0, x3), (0, (-1))] zN σ9 (zQv (fun σ13 => T σ13))))))) ∧ ((¬ (x3 ≤ x8)) → (Fix σ) ∧ (0 ≤ x8) ∧ (x8 < 12) ∧ (r32 ((σ p0 2) * (σ (p0 + 1) x8))) ∧ (r32 (σ (p1 + 1) x8)) ∧ (r64 ((x6 + ((σ p0 2) * (σ (p0 + 1) x8))) + (x4 * (σ (p1 + 1) x8)))) ∧ (r64 (((x6 + ((σ p0 2) * (σ (p0 + 1) x8))) + (x4 * (σ (p1 + 1) x8))) - ((Int.tdiv ((x6 + ((σ p0 2) * (σ (p0 + 1) x8))) + (x4 * (σ (p1 + 1) x8))) 1000000000) * 1000000000))) ∧ ((0 ≤ (((x6 + ((σ p0 2) * (σ (p0 + 1) x8))) + (x4 * (σ (p1 + 1) x8))) - ((Int.tdiv ((x6 + ((σ p0 2) * (σ (p0 + 1) x8))) + (x4 * (σ (p1 + 1) x8))) 1000000000) * 1000000000))) → Z X (rX9_addTimes zN) mX9_addTimes 35 [(2, p0), (2, p1), (9, 0), (0, x3), (1, x4), (9, 0), (1, (Int.tdiv ((x6 + ((σ p0 2) * (σ (p0 + 1) x8))) + (x4 * (σ (p1 + 1) x8))) 1000000000)), (9, 0), (0, (x8 + 1)), (9, 0), (9, 0), (9, 0), (9, 0)] [] zN (z_up σ (p0 + 1) x8 (((x6 + ((σ p0 2) * (σ (p0 + 1) x8))) + (x4 * (σ (p1 + 1) x8))) - ((Int.tdiv ((x6 + ((σ p0 2) * (σ (p0 + 1) x8))) + (x4 * (σ (p1 + 1) x8))) 1000000000) * 1000000000))) (zQv T)) ∧ ((¬ (0 ≤ (((x6 + ((σ p0 2) * (σ (p0 + 1) x8))) + (x4 * (σ (p1 + 1) x8))) - ((Int.tdiv ((x6 + ((σ p0 2) * (σ (p0 + 1) x8))) + (x4 * (σ (p1 + 1) x8))) 1000000000) * 1000000000)))) → Z X (rX9_addTimes zN) mX9_addTimes 35 [(2, p0), (2, p1), (9, 0), (0, x3), (1, x4), (9, 0), (1, ((Int.tdiv ((x6 + ((σ p0 2) * (σ (p0 + 1) x8))) + (x4 * (σ (p1 + 1) x8))) 1000000000) - 1)), (9, 0), (0, (x8 + 1)), (9, 0), (9, 0), (9, 0), (9, 0)] [] zN (z_up σ (p0 + 1) x8 ((((x6 + ((σ p0 2) * (σ (p0 + 1) x8))) + (x4 * (σ (p1 + 1) x8))) - ((Int.tdiv ((x6 + ((σ p0 2) * (σ (p0 + 1) x8))) + (x4 * (σ (p1 + 1) x8))) 1000000000) * 1000000000)) + 1000000000)) (zQv T)))) : Z X (rX9_addTimes zN) mX9_addTimes 35 [(2, p0), (2, p1), (9, 0), (0, x3), (1, x4), (9, 0), (1, x6), (9, 0), (0, x8), (9, 0), (9, 0), (9, 0), (9, 0)] [] zN σ (zQv T) := by
  refine Z_iload dX9_addTimes_35 rfl ?_
  refine Z_iload_n 3 dX9_addTimes_37 rfl rfl ?_
  obtain ⟨g1, h⟩ := h
  obtain ⟨g2, h⟩ := h
  refine Z_icmp_ge (tgt := 127) dX9_addTimes_38 (by decide) g1 g2 (fun c => ?_) (fun c => ?_)
  · replace h := h.1 c
    refine Z_lload dX9_addTimes_127 rfl ?_
    refine Z_lconst (x := 0) dX9_addTimes_129 rfl ?_
    obtain ⟨g3, h⟩ := h
    refine Z_lc_ge (tgt := 139) dX9_addTimes_130 dX9_addTimes_131 (by decide) g3 ⟨by decide, by decide⟩ (fun c => ?_) (fun c => ?_)
    · replace h := h.1 c
      refine Z_aload_n 0 dX9_addTimes_139 rfl rfl ?_
      refine Z_iload_n 3 dX9_addTimes_140 rfl rfl ?_
      refine Z_lload dX9_addTimes_141 rfl ?_
      refine Z_lconst (x := 0) dX9_addTimes_143 rfl ?_
      refine Z_lc_ge (tgt := 152) dX9_addTimes_144 dX9_addTimes_145 (by decide) g3 ⟨by decide, by decide⟩ (fun c => ?_) (fun c => ?_)
      · replace h := h.1 c
        refine Z_iconst dX9_addTimes_152 ?_
        refine Z_invV (T := TX9) (N := 3) (ci := 9) (M' := mX9_trim) (ρ' := rX9_trim zN) (st := []) [(0, x3), (0, 1)] dX9_addTimes_153 rfl rfl hp0 (z_leN hp0 (by decide)) (by decide) rfl rfl (kX9_trim.cl (Nat.le_of_ble_eq_true rfl) (Nat.le_refl _) (Nat.le_refl _) (Nat.le_of_ble_eq_true rfl) (Nat.le_of_ble_eq_true rfl) (Nat.le_of_ble_eq_true rfl)) (mlX9_30 rfl) iX9_trim sX9_trim h (z_kv (fun σ5 h => ?_))
        exact Z_return dX9_addTimes_156 rfl rfl ⟨rfl, h⟩
      · replace h := h.2 c
        refine Z_iconst dX9_addTimes_148 ?_
        refine Z_goto (tgt := 153) dX9_addTimes_149 (by decide) ?_
        refine Z_invV (T := TX9) (N := 3) (ci := 9) (M' := mX9_trim) (ρ' := rX9_trim zN) (st := []) [(0, x3), (0, (-1))] dX9_addTimes_153 rfl rfl hp0 (z_leN hp0 (by decide)) (by decide) rfl rfl (kX9_trim.cl (Nat.le_of_ble_eq_true rfl) (Nat.le_refl _) (Nat.le_refl _) (Nat.le_of_ble_eq_true rfl) (Nat.le_of_ble_eq_true rfl) (Nat.le_of_ble_eq_true rfl)) (mlX9_30 rfl) iX9_trim sX9_trim h (z_kv (fun σ7 h => ?_))
        exact Z_return dX9_addTimes_156 rfl rfl ⟨rfl, h⟩
    · replace h := h.2 c
      refine Z_aload_n 0 dX9_addTimes_134 rfl rfl ?_
      refine Z_iload_n 3 dX9_addTimes_135 rfl rfl ?_
      refine Z_invV (T := TX9) (N := 3) (ci := 9) (M' := mX9_complement) (ρ' := rX9_complement zN) (st := []) [(0, x3)] dX9_addTimes_136 rfl rfl hp0 (z_leN hp0 (by decide)) (by decide) rfl rfl (kX9_complement.cl (Nat.le_of_ble_eq_true rfl) (Nat.le_refl _) (Nat.le_refl _) (Nat.le_of_ble_eq_true rfl) (Nat.le_of_ble_eq_true rfl) (Nat.le_of_ble_eq_true rfl)) (mlX9_48 rfl) iX9_complement sX9_complement h (z_kv (fun σ9 h => ?_))
      refine Z_aload_n 0 dX9_addTimes_139 rfl rfl ?_
      refine Z_iload_n 3 dX9_addTimes_140 rfl rfl ?_
      refine Z_lload dX9_addTimes_141 rfl ?_
      refine Z_lconst (x := 0) dX9_addTimes_143 rfl ?_
      refine Z_lc_ge (tgt := 152) dX9_addTimes_144 dX9_addTimes_145 (by decide) g3 ⟨by decide, by decide⟩ (fun c => ?_) (fun c => ?_)
      · replace h := h.1 c
        refine Z_iconst dX9_addTimes_152 ?_
        refine Z_invV (T := TX9) (N := 3) (ci := 9) (M' := mX9_trim) (ρ' := rX9_trim zN) (st := []) [(0, x3), (0, 1)] dX9_addTimes_153 rfl rfl hp0 (z_leN hp0 (by decide)) (by decide) rfl rfl (kX9_trim.cl (Nat.le_of_ble_eq_true rfl) (Nat.le_refl _) (Nat.le_refl _) (Nat.le_of_ble_eq_true rfl) (Nat.le_of_ble_eq_true rfl) (Nat.le_of_ble_eq_true rfl)) (mlX9_30 rfl) iX9_trim sX9_trim h (z_kv (fun σ11 h => ?_))
        exact Z_return dX9_addTimes_156 rfl rfl ⟨rfl, h⟩
      · replace h := h.2 c
        refine Z_iconst dX9_addTimes_148 ?_
        refine Z_goto (tgt := 153) dX9_addTimes_149 (by decide) ?_
        refine Z_invV (T := TX9) (N := 3) (ci := 9) (M' := mX9_trim) (ρ' := rX9_trim zN) (st := []) [(0, x3), (0, (-1))] dX9_addTimes_153 rfl rfl hp0 (z_leN hp0 (by decide)) (by decide) rfl rfl (kX9_trim.cl (Nat.le_of_ble_eq_true rfl) (Nat.le_refl _) (Nat.le_refl _) (Nat.le_of_ble_eq_true rfl) (Nat.le_of_ble_eq_true rfl) (Nat.le_of_ble_eq_true rfl)) (mlX9_30 rfl) iX9_trim sX9_trim h (z_kv (fun σ13 h => ?_))
        exact Z_return dX9_addTimes_156 rfl rfl ⟨rfl, h⟩
  · replace h := h.2 c
    refine Z_lload dX9_addTimes_41 rfl ?_
    refine Z_aload_n 0 dX9_addTimes_43 rfl rfl ?_
    refine Z_get (T := TX9) (N := 3) (ci := 9) (t := 0) 2 dX9_addTimes_44 hp0 (z_leN hp0 (by decide)) rfl (by decide) inX9 (by decide) (flX9_34 rfl) rfl ?_
    refine Z_aload_n 0 dX9_addTimes_47 rfl rfl ?_
    obtain ⟨g14, h⟩ := h
    refine Z_get (T := TX9) (N := 3) (ci := 9) (t := 2) 0 dX9_addTimes_48 hp0 (z_leN hp0 (by decide)) rfl (by decide) inX9 (by decide) (flX9_9 rfl) rfl ?_
    refine Z_top (y := (p0 + 1)) (Fix.get g14 hp0 0 1 (by decide +kernel)) ?_
    refine Z_iload dX9_addTimes_51 rfl ?_
    obtain ⟨g15, h⟩ := h
    obtain ⟨g16, h⟩ := h
    refine Z_iald dX9_addTimes_53 (zo_9_0 hp0) (z_leN (zo_9_0 hp0) (by decide)) g15 g16 ?_
    refine Z_imul dX9_addTimes_54 ?_
    obtain ⟨g17, h⟩ := h
    refine Z_i2l dX9_addTimes_55 g17 ?_
    refine Z_ladd dX9_addTimes_56 ?_
    refine Z_lload dX9_addTimes_57 rfl ?_
    refine Z_aload_n 1 dX9_addTimes_59 rfl rfl ?_
    refine Z_get (T := TX9) (N := 3) (ci := 9) (t := 2) 0 dX9_addTimes_60 hp1 (z_leN hp1 (by decide)) rfl (by decide) inX9 (by decide) (flX9_9 rfl) rfl ?_
    refine Z_top (y := (p1 + 1)) (Fix.get g14 hp1 0 1 (by decide +kernel)) ?_
    refine Z_iload dX9_addTimes_63 rfl ?_
    refine Z_iald dX9_addTimes_65 (zo_9_0 hp1) (z_leN (zo_9_0 hp1) (by decide)) g15 g16 ?_
    obtain ⟨g18, h⟩ := h
    refine Z_i2l dX9_addTimes_66 g18 ?_
    refine Z_lmul dX9_addTimes_67 ?_
    refine Z_ladd dX9_addTimes_68 ?_
    refine Z_lstore (L' := [(2, p0), (2, p1), (9, 0), (0, x3), (1, x4), (9, 0), (1, x6), (9, 0), (0, x8), (1, ((x6 + ((σ p0 2) * (σ (p0 + 1) x8))) + (x4 * (σ (p1 + 1) x8)))), (9, 0), (9, 0), (9, 0)]) dX9_addTimes_69 (Nat.le_of_ble_eq_true rfl) rfl ?_
    refine Z_lload dX9_addTimes_71 rfl ?_
    refine Z_ldc2 (x := 1000000000) dX9_addTimes_73 ctX9_16 rfl ?_
    obtain ⟨g19, h⟩ := h
    refine Z_ldiv dX9_addTimes_76 g19 ⟨by decide, by decide⟩ (by decide) ?_
    refine Z_lstore (L' := [(2, p0), (2, p1), (9, 0), (0, x3), (1, x4), (9, 0), (1, (Int.tdiv ((x6 + ((σ p0 2) * (σ (p0 + 1) x8))) + (x4 * (σ (p1 + 1) x8))) 1000000000)), (9, 0), (0, x8), (1, ((x6 + ((σ p0 2) * (σ (p0 + 1) x8))) + (x4 * (σ (p1 + 1) x8)))), (9, 0), (9, 0), (9, 0)]) dX9_addTimes_77 (Nat.le_of_ble_eq_true rfl) rfl ?_
    refine Z_lload dX9_addTimes_79 rfl ?_
    refine Z_lload dX9_addTimes_81 rfl ?_
    refine Z_ldc2 (x := 1000000000) dX9_addTimes_83 ctX9_16 rfl ?_
    refine Z_lmul dX9_addTimes_86 ?_
    refine Z_lsub dX9_addTimes_87 ?_
    refine Z_lstore (L' := [(2, p0), (2, p1), (9, 0), (0, x3), (1, x4), (9, 0), (1, (Int.tdiv ((x6 + ((σ p0 2) * (σ (p0 + 1) x8))) + (x4 * (σ (p1 + 1) x8))) 1000000000)), (9, 0), (0, x8), (1, ((x6 + ((σ p0 2) * (σ (p0 + 1) x8))) + (x4 * (σ (p1 + 1) x8)))), (9, 0), (1, (((x6 + ((σ p0 2) * (σ (p0 + 1) x8))) + (x4 * (σ (p1 + 1) x8))) - ((Int.tdiv ((x6 + ((σ p0 2) * (σ (p0 + 1) x8))) + (x4 * (σ (p1 + 1) x8))) 1000000000) * 1000000000))), (9, 0)]) dX9_addTimes_88 (Nat.le_of_ble_eq_true rfl) rfl ?_
    refine Z_lload dX9_addTimes_90 rfl ?_
    refine Z_lconst (x := 0) dX9_addTimes_92 rfl ?_
    obtain ⟨g20, h⟩ := h
    refine Z_lc_ge (tgt := 111) dX9_addTimes_93 dX9_addTimes_94 (by decide) g20 ⟨by decide, by decide⟩ (fun c => ?_) (fun c => ?_)
    · replace h := h.1 c
      refine Z_aload_n 0 dX9_addTimes_111 rfl rfl ?_
      refine Z_get (T := TX9) (N := 3) (ci := 9) (t := 2) 0 dX9_addTimes_112 hp0 (z_leN hp0 (by decide)) rfl (by decide) inX9 (by decide) (flX9_9 rfl) rfl ?_
      refine Z_top (y := (p0 + 1)) (Fix.get g14 hp0 0 1 (by decide +kernel)) ?_
      refine Z_iload dX9_addTimes_115 rfl ?_
      refine Z_lload dX9_addTimes_117 rfl ?_
      refine Z_l2i dX9_addTimes_119 ?_
      refine Z_iast dX9_addTimes_120 (zo_9_0 hp0) (z_leN (zo_9_0 hp0) (by decide)) g15 g16 ?_
      refine Z_iinc (L' := [(2, p0), (2, p1), (9, 0), (0, x3), (1, x4), (9, 0), (1, (Int.tdiv ((x6 + ((σ p0 2) * (σ (p0 + 1) x8))) + (x4 * (σ (p1 + 1) x8))) 1000000000)), (9, 0), (0, (x8 + 1)), (1, ((x6 + ((σ p0 2) * (σ (p0 + 1) x8))) + (x4 * (σ (p1 + 1) x8)))), (9, 0), (1, (((x6 + ((σ p0 2) * (σ (p0 + 1) x8))) + (x4 * (σ (p1 + 1) x8))) - ((Int.tdiv ((x6 + ((σ p0 2) * (σ (p0 + 1) x8))) + (x4 * (σ (p1 + 1) x8))) 1000000000) * 1000000000))), (9, 0)]) dX9_addTimes_121 rfl (Nat.le_of_ble_eq_true rfl) rfl ?_
      refine Z_goto (tgt := 35) dX9_addTimes_124 (by decide) ?_
      exact Z_few (z_few_k (z_few_k (z_few_k (z_few_k (z_few_k (z_few_k (z_few_k (z_few_k (z_few_k (z_few_d (z_few_k (z_few_d (z_few_k z_few_0))))))))))))) h
    · replace h := h.2 c
      refine Z_lload dX9_addTimes_97 rfl ?_
      refine Z_ldc2 (x := 1000000000) dX9_addTimes_99 ctX9_16 rfl ?_
      refine Z_ladd dX9_addTimes_102 ?_
      refine Z_lstore (L' := [(2, p0), (2, p1), (9, 0), (0, x3), (1, x4), (9, 0), (1, (Int.tdiv ((x6 + ((σ p0 2) * (σ (p0 + 1) x8))) + (x4 * (σ (p1 + 1) x8))) 1000000000)), (9, 0), (0, x8), (1, ((x6 + ((σ p0 2) * (σ (p0 + 1) x8))) + (x4 * (σ (p1 + 1) x8)))), (9, 0), (1, ((((x6 + ((σ p0 2) * (σ (p0 + 1) x8))) + (x4 * (σ (p1 + 1) x8))) - ((Int.tdiv ((x6 + ((σ p0 2) * (σ (p0 + 1) x8))) + (x4 * (σ (p1 + 1) x8))) 1000000000) * 1000000000)) + 1000000000)), (9, 0)]) dX9_addTimes_103 (Nat.le_of_ble_eq_true rfl) rfl ?_
      refine Z_lload dX9_addTimes_105 rfl ?_
      refine Z_lconst (x := 1) dX9_addTimes_107 rfl ?_
      refine Z_lsub dX9_addTimes_108 ?_
      refine Z_lstore (L' := [(2, p0), (2, p1), (9, 0), (0, x3), (1, x4), (9, 0), (1, ((Int.tdiv ((x6 + ((σ p0 2) * (σ (p0 + 1) x8))) + (x4 * (σ (p1 + 1) x8))) 1000000000) - 1)), (9, 0), (0, x8), (1, ((x6 + ((σ p0 2) * (σ (p0 + 1) x8))) + (x4 * (σ (p1 + 1) x8)))), (9, 0), (1, ((((x6 + ((σ p0 2) * (σ (p0 + 1) x8))) + (x4 * (σ (p1 + 1) x8))) - ((Int.tdiv ((x6 + ((σ p0 2) * (σ (p0 + 1) x8))) + (x4 * (σ (p1 + 1) x8))) 1000000000) * 1000000000)) + 1000000000)), (9, 0)]) dX9_addTimes_109 (Nat.le_of_ble_eq_true rfl) rfl ?_
      refine Z_aload_n 0 dX9_addTimes_111 rfl rfl ?_
      refine Z_get (T := TX9) (N := 3) (ci := 9) (t := 2) 0 dX9_addTimes_112 hp0 (z_leN hp0 (by decide)) rfl (by decide) inX9 (by decide) (flX9_9 rfl) rfl ?_
      refine Z_top (y := (p0 + 1)) (Fix.get g14 hp0 0 1 (by decide +kernel)) ?_
      refine Z_iload dX9_addTimes_115 rfl ?_
      refine Z_lload dX9_addTimes_117 rfl ?_
      refine Z_l2i dX9_addTimes_119 ?_
      refine Z_iast dX9_addTimes_120 (zo_9_0 hp0) (z_leN (zo_9_0 hp0) (by decide)) g15 g16 ?_
      refine Z_iinc (L' := [(2, p0), (2, p1), (9, 0), (0, x3), (1, x4), (9, 0), (1, ((Int.tdiv ((x6 + ((σ p0 2) * (σ (p0 + 1) x8))) + (x4 * (σ (p1 + 1) x8))) 1000000000) - 1)), (9, 0), (0, (x8 + 1)), (1, ((x6 + ((σ p0 2) * (σ (p0 + 1) x8))) + (x4 * (σ (p1 + 1) x8)))), (9, 0), (1, ((((x6 + ((σ p0 2) * (σ (p0 + 1) x8))) + (x4 * (σ (p1 + 1) x8))) - ((Int.tdiv ((x6 + ((σ p0 2) * (σ (p0 + 1) x8))) + (x4 * (σ (p1 + 1) x8))) 1000000000) * 1000000000)) + 1000000000)), (9, 0)]) dX9_addTimes_121 rfl (Nat.le_of_ble_eq_true rfl) rfl ?_
      refine Z_goto (tgt := 35) dX9_addTimes_124 (by decide) ?_
      exact Z_few (z_few_k (z_few_k (z_few_k (z_few_k (z_few_k (z_few_k (z_few_k (z_few_k (z_few_k (z_few_d (z_few_k (z_few_d (z_few_k z_few_0))))))))))))) h
theorem bk_X9_complement {X : ZS} {σ : ZM} {T : ZM → Prop} {p0 : Int} (hp0 : z_l p0 = (9, 3)) {x1 : Int} (h : Z X (rX9_complement zN) mX9_complement 5 [(2, p0), (0, x1), (1, 0), (9, 0), (0, 0), (9, 0), (9, 0)] [] zN σ (zQv T)) : ZC X (rX9_complement zN) mX9_complement [(2, p0), (0, x1)] zN σ (zQv T) := by
  show Z X _ _ 0 [(2, p0), (0, x1), (9, 0), (9, 0), (9, 0), (9, 0), (9, 0)] [] _ σ _
  refine Z_lconst (x := 0) dX9_complement_0 rfl ?_
  refine Z_lstore_n (L' := [(2, p0), (0, x1), (1, 0), (9, 0), (9, 0), (9, 0), (9, 0)]) 2 dX9_complement_1 rfl (Nat.le_of_ble_eq_true rfl) rfl ?_
  refine Z_iconst dX9_complement_2 ?_
  refine Z_istore (L' := [(2, p0), (0, x1), (1, 0), (9, 0), (0, 0), (9, 0), (9, 0)]) dX9_complement_3 (Nat.le_of_ble_eq_true rfl) rfl ?_
  exact Z_few (z_few_k (z_few_k (z_few_k (z_few_k (z_few_k (z_few_k (z_few_k z_few_0))))))) h
theorem bk_X9_complement_5 {X : ZS} {σ : ZM} {T : ZM → Prop} {p0 : Int} (hp0 : z_l p0 = (9, 3)) {x1 : Int} {x2 : Int} {x4 : Int} (h : (r32 x4) ∧ (r32 x1) ∧ ((x1 ≤ x4) → T σ) ∧ ((¬ (x1 ≤ x4)) → (Fix σ) ∧ (0 ≤ x4) ∧ (x4 < 12) ∧ (r32 (σ (p0 + 1) x4)) ∧ (r64 ((-x2) - (σ (p0 + 1) x4))) ∧ ((0 ≤ ((-x2) - (σ (p0 + 1) x4))) → Z X (rX9_complement zN) mX9_complement 5 [(2, p0), (0, x1), (1, 0), (9, 0), (0, (x4 + 1)), (9, 0), (9, 0)] [] zN (z_up σ (p0 + 1) x4 (((-x2) - (σ (p0 + 1) x4)) + (0 * 1000000000))) (zQv T)) ∧ ((¬ (0 ≤ ((-x2) - (σ (p0 + 1) x4)))) → Z X (rX9_complement zN) mX9_complement 5 [(2, p0), (0, x1), (1, 1), (9, 0), (0, (x4 + 1)), (9, 0), (9, 0)] [] zN (z_up σ (p0 + 1) x4 (((-x2) - (σ (p0 + 1) x4)) + (1 * 1000000000))) (zQv T)))) : Z X (rX9_complement zN) mX9_complement 5 [(2, p0), (0, x1), (1, x2), (9, 0), (0, x4), (9, 0), (9, 0)] [] zN σ (zQv T) := by
  refine Z_iload dX9_complement_5 rfl ?_
  refine Z_iload_n 1 dX9_complement_7 rfl rfl ?_
  obtain ⟨g1, h⟩ := h
  obtain ⟨g2, h⟩ := h
  refine Z_icmp_ge (tgt := 59) dX9_complement_8 (by decide) g1 g2 (fun c => ?_) (fun c => ?_)
  · replace h := h.1 c
    exact Z_return dX9_complement_59 rfl rfl ⟨rfl, h⟩
  · replace h := h.2 c
    refine Z_lload_n 2 dX9_complement_11 rfl rfl ?_
    refine Z_lneg dX9_complement_12 ?_
    refine Z_aload_n 0 dX9_complement_13 rfl rfl ?_
    obtain ⟨g3, h⟩ := h
    refine Z_get (T := TX9) (N := 3) (ci := 9) (t := 2) 0 dX9_complement_14 hp0 (z_leN hp0 (by decide)) rfl (by decide) inX9 (by decide) (flX9_9 rfl) rfl ?_
    refine Z_top (y := (p0 + 1)) (Fix.get g3 hp0 0 1 (by decide +kernel)) ?_
    refine Z_iload dX9_complement_17 rfl ?_
    obtain ⟨g4, h⟩ := h
    obtain ⟨g5, h⟩ := h
    refine Z_iald dX9_complement_19 (zo_9_0 hp0) (z_leN (zo_9_0 hp0) (by decide)) g4 g5 ?_
    obtain ⟨g6, h⟩ := h
    refine Z_i2l dX9_complement_20 g6 ?_
    refine Z_lsub dX9_complement_21 ?_
    refine Z_lstore (L' := [(2, p0), (0, x1), (1, x2), (9, 0), (0, x4), (1, ((-x2) - (σ (p0 + 1) x4))), (9, 0)]) dX9_complement_22 (Nat.le_of_ble_eq_true rfl) rfl ?_
    refine Z_lload dX9_complement_24 rfl ?_
    refine Z_lconst (x := 0) dX9_complement_26 rfl ?_
    obtain ⟨g7, h⟩ := h
    refine Z_lc_ge (tgt := 35) dX9_complement_27 dX9_complement_28 (by decide) g7 ⟨by decide, by decide⟩ (fun c => ?_) (fun c => ?_)
    · replace h := h.1 c
      refine Z_lconst (x := 0) dX9_complement_35 rfl ?_
      refine Z_lstore_n (L' := [(2, p0), (0, x1), (1, 0), (9, 0), (0, x4), (1, ((-x2) - (σ (p0 + 1) x4))), (9, 0)]) 2 dX9_complement_36 rfl (Nat.le_of_ble_eq_true rfl) rfl ?_
      refine Z_aload_n 0 dX9_complement_37 rfl rfl ?_
      refine Z_get (T := TX9) (N := 3) (ci := 9) (t := 2) 0 dX9_complement_38 hp0 (z_leN hp0 (by decide)) rfl (by decide) inX9 (by decide) (flX9_9 rfl) rfl ?_
      refine Z_top (y := (p0 + 1)) (Fix.get g3 hp0 0 1 (by decide +kernel)) ?_
      refine Z_iload dX9_complement_41 rfl ?_
      refine Z_lload dX9_complement_43 rfl ?_
      refine Z_lload_n 2 dX9_complement_45 rfl rfl ?_
      refine Z_ldc2 (x := 1000000000) dX9_complement_46 ctX9_16 rfl ?_
      refine Z_lmul dX9_complement_49 ?_
      refine Z_ladd dX9_complement_50 ?_
      refine Z_l2i dX9_complement_51 ?_
      refine Z_iast dX9_complement_52 (zo_9_0 hp0) (z_leN (zo_9_0 hp0) (by decide)) g4 g5 ?_
      refine Z_iinc (L' := [(2, p0), (0, x1), (1, 0), (9, 0), (0, (x4 + 1)), (1, ((-x2) - (σ (p0 + 1) x4))), (9, 0)]) dX9_complement_53 rfl (Nat.le_of_ble_eq_true rfl) rfl ?_
      refine Z_goto (tgt := 5) dX9_complement_56 (by decide) ?_
      exact Z_few (z_few_k (z_few_k (z_few_k (z_few_k (z_few_k (z_few_d (z_few_k z_few_0))))))) h
    · replace h := h.2 c
      refine Z_lconst (x := 1) dX9_complement_31 rfl ?_
      refine Z_goto (tgt := 36) dX9_complement_32 (by decide) ?_
      refine Z_lstore_n (L' := [(2, p0), (0, x1), (1, 1), (9, 0), (0, x4), (1, ((-x2) - (σ (p0 + 1) x4))), (9, 0)]) 2 dX9_complement_36 rfl (Nat.le_of_ble_eq_true rfl) rfl ?_
      refine Z_aload_n 0 dX9_complement_37 rfl rfl ?_
      refine Z_get (T := TX9) (N := 3) (ci := 9) (t := 2) 0 dX9_complement_38 hp0 (z_leN hp0 (by decide)) rfl (by decide) inX9 (by decide) (flX9_9 rfl) rfl ?_
      refine Z_top (y := (p0 + 1)) (Fix.get g3 hp0 0 1 (by decide +kernel)) ?_
      refine Z_iload dX9_complement_41 rfl ?_
      refine Z_lload dX9_complement_43 rfl ?_
      refine Z_lload_n 2 dX9_complement_45 rfl rfl ?_
      refine Z_ldc2 (x := 1000000000) dX9_complement_46 ctX9_16 rfl ?_
      refine Z_lmul dX9_complement_49 ?_
      refine Z_ladd dX9_complement_50 ?_
      refine Z_l2i dX9_complement_51 ?_
      refine Z_iast dX9_complement_52 (zo_9_0 hp0) (z_leN (zo_9_0 hp0) (by decide)) g4 g5 ?_
      refine Z_iinc (L' := [(2, p0), (0, x1), (1, 1), (9, 0), (0, (x4 + 1)), (1, ((-x2) - (σ (p0 + 1) x4))), (9, 0)]) dX9_complement_53 rfl (Nat.le_of_ble_eq_true rfl) rfl ?_
      refine Z_goto (tgt := 5) dX9_complement_56 (by decide) ?_
      exact Z_few (z_few_k (z_few_k (z_few_k (z_few_k (z_few_k (z_few_d (z_few_k z_few_0))))))) h
theorem bk_X9_clear {X : ZS} {n : Nat} {σ : ZM} {T : ZM → Prop} {p0 : Int} (hp0 : z_l p0 = (9, 3)) (h : Z X (rX9_clear n) mX9_clear 2 [(2, p0), (0, 0)] [] n σ (zQv T)) : ZC X (rX9_clear n) mX9_clear [(2, p0)] n σ (zQv T) := by
  show Z X _ _ 0 [(2, p0), (9, 0)] [] _ σ _
  refine Z_iconst dX9_clear_0 ?_
  refine Z_istore_n (L' := [(2, p0), (0, 0)]) 1 dX9_clear_1 rfl (Nat.le_of_ble_eq_true rfl) rfl ?_
  exact Z_few (z_few_k (z_few_k z_few_0)) h
theorem bk_X9_clear_2 {X : ZS} {n : Nat} {σ : ZM} {T : ZM → Prop} {p0 : Int} (hp0 : z_l p0 = (9, 3)) {x1 : Int} (h : (p0.toNat ≤ n) ∧ (r32 x1) ∧ (r32 (σ p0 1)) ∧ (((σ p0 1) ≤ x1) → T (z_up σ p0 1 0)) ∧ ((¬ ((σ p0 1) ≤ x1)) → (σ p0 0 = (p0 + 1)) ∧ ((p0 + 1).toNat ≤ n) ∧ (0 ≤ x1) ∧ (x1 < 12) ∧ Z X (rX9_clear n) mX9_clear 2 [(2, p0), (0, (x1 + 1))] [] n (z_up σ (p0 + 1) x1 0) (zQv T))) : Z X (rX9_clear n) mX9_clear 2 [(2, p0), (0, x1)] [] n σ (zQv T) := by
  refine Z_iload_n 1 dX9_clear_2 rfl rfl ?_
  refine Z_aload_n 0 dX9_clear_3 rfl rfl ?_
  obtain ⟨g1, h⟩ := h
  refine Z_get (T := TX9) (N := 3) (ci := 9) (t := 0) 1 dX9_clear_4 hp0 g1 rfl (by decide) inX9 (by decide) (flX9_38 rfl) rfl ?_
  obtain ⟨g2, h⟩ := h
  obtain ⟨g3, h⟩ := h
  refine Z_icmp_ge (tgt := 23) dX9_clear_7 (by decide) g2 g3 (fun c => ?_) (fun c => ?_)
  · replace h := h.1 c
    refine Z_aload_n 0 dX9_clear_23 rfl rfl ?_
    refine Z_iconst dX9_clear_24 ?_
    refine Z_put (T := TX9) (N := 3) (ci := 9) (t := 0) tyX9 1 dX9_clear_25 hp0 g1 rfl (by decide) inX9 (by decide) (plX9_38 rfl) rfl tyX9_ok nmX9 rfl (z_nf_i _) ?_
    exact Z_return dX9_clear_28 rfl rfl ⟨rfl, h⟩
  · replace h := h.2 c
    refine Z_aload_n 0 dX9_clear_10 rfl rfl ?_
    obtain ⟨g4, h⟩ := h
    refine Z_get (T := TX9) (N := 3) (ci := 9) (t := 2) 0 dX9_clear_11 hp0 g1 rfl (by decide) inX9 (by decide) (flX9_9 rfl) rfl ?_
    refine Z_top g4 ?_
    refine Z_iload_n 1 dX9_clear_14 rfl rfl ?_
    refine Z_iconst dX9_clear_15 ?_
    obtain ⟨g5, h⟩ := h
    obtain ⟨g6, h⟩ := h
    obtain ⟨g7, h⟩ := h
    refine Z_iast dX9_clear_16 (zo_9_0 hp0) g5 g6 g7 ?_
    refine Z_iinc (L' := [(2, p0), (0, (x1 + 1))]) dX9_clear_17 rfl (Nat.le_of_ble_eq_true rfl) rfl ?_
    refine Z_goto (tgt := 2) dX9_clear_20 (by decide) ?_
    exact Z_few (z_few_k (z_few_k z_few_0)) h
theorem bk_X9_trim {X : ZS} {n : Nat} {σ : ZM} {T : ZM → Prop} {p0 : Int} (hp0 : z_l p0 = (9, 3)) {x1 : Int} {x2 : Int} (h : (r32 x1) ∧ ((0 ≤ x1) → ((x1 ≤ 12) → (p0.toNat ≤ n) ∧ Z X (rX9_trim n) mX9_trim 24 [(2, p0), (9, 0), (0, x2)] [] n (z_up σ p0 1 x1) (zQv T)) ∧ ((¬ (x1 ≤ 12)) → (p0.toNat ≤ n) ∧ Z X (rX9_trim n) mX9_trim 24 [(2, p0), (9, 0), (0, x2)] [] n (z_up σ p0 1 12) (zQv T))) ∧ ((¬ (0 ≤ x1)) → (p0.toNat ≤ n) ∧ Z X (rX9_trim n) mX9_trim 24 [(2, p0), (9, 0), (0, x2)] [] n (z_up σ p0 1 0) (zQv T))) : ZC X (rX9_trim n) mX9_trim [(2, p0), (0, x1), (0, x2)] n σ (zQv T) := by
  show Z X _ _ 0 [(2, p0), (0, x1), (0, x2)] [] _ σ _
  refine Z_aload_n 0 dX9_trim_0 rfl rfl ?_
  refine Z_iload_n 1 dX9_trim_1 rfl rfl ?_
  obtain ⟨g1, h⟩ := h
  refine Z_if_ge (tgt := 9) dX9_trim_2 (by decide) g1 (fun c => ?_) (fun c => ?_)
  · replace h := h.1 c
    refine Z_iload_n 1 dX9_trim_9 rfl rfl ?_
    refine Z_bipush dX9_trim_10 (by decide) ?_
    refine Z_icmp_le (tgt := 20) dX9_trim_12 (by decide) g1 ⟨by decide, by decide⟩ (fun c => ?_) (fun c => ?_)
    · replace h := h.1 c
      refine Z_iload_n 1 dX9_trim_20 rfl rfl ?_
      obtain ⟨g2, h⟩ := h
      refine Z_put (T := TX9) (N := 3) (ci := 9) (t := 0) tyX9 1 dX9_trim_21 hp0 g2 rfl (by decide) inX9 (by decide) (plX9_38 rfl) rfl tyX9_ok nmX9 rfl (z_nf_i _) ?_
      exact Z_few (z_few_k (z_few_d (z_few_k z_few_0))) h
    · replace h := h.2 c
      refine Z_bipush dX9_trim_15 (by decide) ?_
      refine Z_goto (tgt := 21) dX9_trim_17 (by decide) ?_
      obtain ⟨g3, h⟩ := h
      refine Z_put (T := TX9) (N := 3) (ci := 9) (t := 0) tyX9 1 dX9_trim_21 hp0 g3 rfl (by decide) inX9 (by decide) (plX9_38 rfl) rfl tyX9_ok nmX9 rfl (z_nf_i _) ?_
      exact Z_few (z_few_k (z_few_d (z_few_k z_few_0))) h
  · replace h := h.2 c
    refine Z_iconst dX9_trim_5 ?_
    refine Z_goto (tgt := 21) dX9_trim_6 (by decide) ?_
    obtain ⟨g4, h⟩ := h
    refine Z_put (T := TX9) (N := 3) (ci := 9) (t := 0) tyX9 1 dX9_trim_21 hp0 g4 rfl (by decide) inX9 (by decide) (plX9_38 rfl) rfl tyX9_ok nmX9 rfl (z_nf_i _) ?_
    exact Z_few (z_few_k (z_few_d (z_few_k z_few_0))) h
theorem bk_X9_trim_24 {X : ZS} {n : Nat} {σ : ZM} {T : ZM → Prop} {p0 : Int} (hp0 : z_l p0 = (9, 3)) {x2 : Int} (h : (p0.toNat ≤ n) ∧ (r32 (σ p0 1)) ∧ (((σ p0 1) ≤ 0) → ((¬ (σ p0 1) = 0) → T (z_up σ p0 2 x2)) ∧ (((σ p0 1) = 0) → T (z_up σ p0 2 0))) ∧ ((¬ ((σ p0 1) ≤ 0)) → (σ p0 0 = (p0 + 1)) ∧ ((p0 + 1).toNat ≤ n) ∧ (0 ≤ ((σ p0 1) - 1)) ∧ (((σ p0 1) - 1) < 12) ∧ (r32 (σ (p0 + 1) ((σ p0 1) - 1))) ∧ ((¬ (σ (p0 + 1) ((σ p0 1) - 1)) = 0) → ((¬ (σ p0 1) = 0) → T (z_up σ p0 2 x2)) ∧ (((σ p0 1) = 0) → T (z_up σ p0 2 0))) ∧ (((σ (p0 + 1) ((σ p0 1) - 1)) = 0) → Z X (rX9_trim n) mX9_trim 24 [(2, p0), (9, 0), (0, x2)] [] n (z_up σ p0 1 ((σ p0 1) - 1)) (zQv T)))) : Z X (rX9_trim n) mX9_trim 24 [(2, p0), (9, 0), (0, x2)] [] n σ (zQv T) := by
  refine Z_aload_n 0 dX9_trim_24 rfl rfl ?_
  obtain ⟨g1, h⟩ := h
  refine Z_get (T := TX9) (N := 3) (ci := 9) (t := 0) 1 dX9_trim_25 hp0 g1 rfl (by decide) inX9 (by decide) (flX9_38 rfl) rfl ?_
  obtain ⟨g2, h⟩ := h
  refine Z_if_le (tgt := 58) dX9_trim_28 (by decide) g2 (fun c => ?_) (fun c => ?_)
  · replace h := h.1 c
    refine Z_aload_n 0 dX9_trim_58 rfl rfl ?_
    refine Z_aload_n 0 dX9_trim_59 rfl rfl ?_
    refine Z_get (T := TX9) (N := 3) (ci := 9) (t := 0) 1 dX9_trim_60 hp0 g1 rfl (by decide) inX9 (by decide) (flX9_38 rfl) rfl ?_
    refine Z_if_ne (tgt := 70) dX9_trim_63 (by decide) g2 (fun c => ?_) (fun c => ?_)
    · replace h := h.1 c
      refine Z_iload_n 2 dX9_trim_70 rfl rfl ?_
      refine Z_put (T := TX9) (N := 3) (ci := 9) (t := 0) tyX9 2 dX9_trim_71 hp0 g1 rfl (by decide) inX9 (by decide) (plX9_34 rfl) rfl tyX9_ok nmX9 rfl (z_nf_i _) ?_
      exact Z_return dX9_trim_74 rfl rfl ⟨rfl, h⟩
    · replace h := h.2 c
      refine Z_iconst dX9_trim_66 ?_
      refine Z_goto (tgt := 71) dX9_trim_67 (by decide) ?_
      refine Z_put (T := TX9) (N := 3) (ci := 9) (t := 0) tyX9 2 dX9_trim_71 hp0 g1 rfl (by decide) inX9 (by decide) (plX9_34 rfl) rfl tyX9_ok nmX9 rfl (z_nf_i _) ?_
      exact Z_return dX9_trim_74 rfl rfl ⟨rfl, h⟩
  · replace h := h.2 c
    refine Z_aload_n 0 dX9_trim_31 rfl rfl ?_
    obtain ⟨g3, h⟩ := h
    refine Z_get (T := TX9) (N := 3) (ci := 9) (t := 2) 0 dX9_trim_32 hp0 g1 rfl (by decide) inX9 (by decide) (flX9_9 rfl) rfl ?_
    refine Z_top g3 ?_
    refine Z_aload_n 0 dX9_trim_35 rfl rfl ?_
    refine Z_get (T := TX9) (N := 3) (ci := 9) (t := 0) 1 dX9_trim_36 hp0 g1 rfl (by decide) inX9 (by decide) (flX9_38 rfl) rfl ?_
    refine Z_iconst dX9_trim_39 ?_
    refine Z_isub dX9_trim_40 ?_
    obtain ⟨g4, h⟩ := h
    obtain ⟨g5, h⟩ := h
    obtain ⟨g6, h⟩ := h
    refine Z_iald dX9_trim_41 (zo_9_0 hp0) g4 g5 g6 ?_
    obtain ⟨g7, h⟩ := h
    refine Z_if_ne (tgt := 58) dX9_trim_42 (by decide) g7 (fun c => ?_) (fun c => ?_)
    · replace h := h.1 c
      refine Z_aload_n 0 dX9_trim_58 rfl rfl ?_
      refine Z_aload_n 0 dX9_trim_59 rfl rfl ?_
      refine Z_get (T := TX9) (N := 3) (ci := 9) (t := 0) 1 dX9_trim_60 hp0 g1 rfl (by decide) inX9 (by decide) (flX9_38 rfl) rfl ?_
      refine Z_if_ne (tgt := 70) dX9_trim_63 (by decide) g2 (fun c => ?_) (fun c => ?_)
      · replace h := h.1 c
        refine Z_iload_n 2 dX9_trim_70 rfl rfl ?_
        refine Z_put (T := TX9) (N := 3) (ci := 9) (t := 0) tyX9 2 dX9_trim_71 hp0 g1 rfl (by decide) inX9 (by decide) (plX9_34 rfl) rfl tyX9_ok nmX9 rfl (z_nf_i _) ?_
        exact Z_return dX9_trim_74 rfl rfl ⟨rfl, h⟩
      · replace h := h.2 c
        refine Z_iconst dX9_trim_66 ?_
        refine Z_goto (tgt := 71) dX9_trim_67 (by decide) ?_
        refine Z_put (T := TX9) (N := 3) (ci := 9) (t := 0) tyX9 2 dX9_trim_71 hp0 g1 rfl (by decide) inX9 (by decide) (plX9_34 rfl) rfl tyX9_ok nmX9 rfl (z_nf_i _) ?_
        exact Z_return dX9_trim_74 rfl rfl ⟨rfl, h⟩
    · replace h := h.2 c
      refine Z_aload_n 0 dX9_trim_45 rfl rfl ?_
      refine Z_dup dX9_trim_46 (by simp) ?_
      refine Z_get (T := TX9) (N := 3) (ci := 9) (t := 0) 1 dX9_trim_47 hp0 g1 rfl (by decide) inX9 (by decide) (flX9_38 rfl) rfl ?_
      refine Z_iconst dX9_trim_50 ?_
      refine Z_isub dX9_trim_51 ?_
      refine Z_put (T := TX9) (N := 3) (ci := 9) (t := 0) tyX9 1 dX9_trim_52 hp0 g1 rfl (by decide) inX9 (by decide) (plX9_38 rfl) rfl tyX9_ok nmX9 rfl (z_nf_i _) ?_
      refine Z_goto (tgt := 24) dX9_trim_55 (by decide) ?_
      exact Z_few (z_few_k (z_few_k (z_few_k z_few_0))) h
theorem bk_X10_init {X : ZS} {n : Nat} {n1 : Nat} {σ : ZM} {T : ZM → Prop} {p0 : Int} (hp0 : z_l p0 = (10, 4)) (h : (z_l ((n + 1 : Nat) : Int) = (1, 4)) ∧ (n + 1 ≤ n1) ∧ (((n + 1 : Nat) : Int).toNat ≤ (n + 1)) ∧ (((n + 1) + 2) ≤ n1) ∧ ZC X (rX1_init ((n + 1) + 2)) mX1_init [(2, ((n + 1 : Nat) : Int))] (n + 1) (z_new σ ((n + 1 : Nat) : Int)) (zQv (fun σ6 => (p0.toNat ≤ ((n + 1) + 2)) ∧ (z_l ((((n + 1) + 2) + 1 : Nat) : Int) = (9, 3)) ∧ (((n + 1) + 2) + 1 ≤ n1) ∧ (((((n + 1) + 2) + 1 : Nat) : Int).toNat ≤ (((n + 1) + 2) + 1)) ∧ (((((n + 1) + 2) + 1) + 1) ≤ n1) ∧ ZC X (rX9_init ((((n + 1) + 2) + 1) + 1)) mX9_init [(2, ((((n + 1) + 2) + 1 : Nat) : Int))] (((n + 1) + 2) + 1) (z_new (z_up σ6 p0 0 ((n + 1 : Nat) : Int)) ((((n + 1) + 2) + 1 : Nat) : Int)) (zQv (fun σ14 => (p0.toNat ≤ ((((n + 1) + 2) + 1) + 1)) ∧ (z_l ((((((n + 1) + 2) + 1) + 1) + 1 : Nat) : Int) = (9, 3)) ∧ (((((n + 1) + 2) + 1) + 1) + 1 ≤ n1) ∧ (((((((n + 1) + 2) + 1) + 1) + 1 : Nat) : Int).toNat ≤ (((((n + 1) + 2) + 1) + 1) + 1)) ∧ (((((((n + 1) + 2) + 1) + 1) + 1) + 1) ≤ n1) ∧ ZC X (rX9_init ((((((n + 1) + 2) + 1) + 1) + 1) + 1)) mX9_init [(2, ((((((n + 1) + 2) + 1) + 1) + 1 : Nat) : Int))] (((((n + 1) + 2) + 1) + 1) + 1) (z_new (z_up σ14 p0 1 ((((n + 1) + 2) + 1 : Nat) : Int)) ((((((n + 1) + 2) + 1) + 1) + 1 : Nat) : Int)) (zQv (fun σ22 => (p0.toNat ≤ ((((((n + 1) + 2) + 1) + 1) + 1) + 1)) ∧ (z_l ((((((((n + 1) + 2) + 1) + 1) + 1) + 1) + 1 : Nat) : Int) = (9, 3)) ∧ (((((((n + 1) + 2) + 1) + 1) + 1) + 1) + 1 ≤ n1) ∧ (((((((((n + 1) + 2) + 1) + 1) + 1) + 1) + 1 : Nat) : Int).toNat ≤ (((((((n + 1) + 2) + 1) + 1) + 1) + 1) + 1)) ∧ (((((((((n + 1) + 2) + 1) + 1) + 1) + 1) + 1) + 1) ≤ n1) ∧ ZC X (rX9_init ((((((((n + 1) + 2) + 1) + 1) + 1) + 1) + 1) + 1)) mX9_init [(2, ((((((((n + 1) + 2) + 1) + 1) + 1) + 1) + 1 : Nat) : Int))] (((((((n + 1) + 2) + 1) + 1) + 1) + 1) + 1) (z_new (z_up σ22 p0 2 ((((((n + 1) + 2) + 1) + 1) + 1 : Nat) : Int)) ((((((((n + 1) + 2) + 1) + 1) + 1) + 1) + 1 : Nat) : Int)) (zQv (fun σ30 => (p0.toNat ≤ ((((((((n + 1) + 2) + 1) + 1) + 1) + 1) + 1) + 1)) ∧ (((((((((n + 1) + 2) + 1) + 1) + 1) + 1) + 1) + 1) = n1) ∧ T (z_up σ30 p0 3 ((((((((n + 1) + 2) + 1) + 1) + 1) + 1) + 1 : Nat) : Int))))))))))) : ZC X (rX10_init n1) mX10_init [(2, p0)] n σ (zQv T) := by
  show Z X _ _ 0 [(2, p0)] [] _ σ _
  refine Z_aload_n 0 dX10_init_0 rfl rfl ?_
  refine Z_objInit dX10_init_1 ((z_l_pos (by rw [hp0]; decide)).1) mlX10_1 ob_i ob_c (Nat.le_of_ble_eq_true rfl) (Nat.le_of_ble_eq_true rfl) (Nat.le_of_ble_eq_true rfl) ?_
  refine Z_aload_n 0 dX10_init_4 rfl rfl ?_
  obtain ⟨g1, h⟩ := h
  obtain ⟨g2, h⟩ := h
  refine Z_newO (T := TX1) (N := 4) (ci := 1) tyX1 dX10_init_5 rfl (by decide) inX1 tyX1_ok df_1 clX10_7 in_X1 iz_X1 g1 g2 ?_
  refine Z_dup dX10_init_8 (by simp) ?_
  obtain ⟨g3, h⟩ := h
  obtain ⟨g7, h⟩ := h
  refine Z_invI (M' := mX1_init) (ρ' := rX1_init ((n + 1) + 2)) (st := [(2, ((n + 1 : Nat) : Int)), (2, p0)]) [] dX10_init_9 rfl ((z_l_pos (by rw [g1]; decide)).1) rfl rfl rfl (kX1_init.cl (Nat.le_of_ble_eq_true rfl) (Nat.le_add_right _ _) g7 (Nat.le_of_ble_eq_true rfl) (Nat.le_of_ble_eq_true rfl) (Nat.le_of_ble_eq_true rfl)) (mlX10_9 rfl) iX1_init h (z_kv (fun σ6 h => ?_))
  obtain ⟨g8, h⟩ := h
  refine Z_put (T := TX10) (N := 4) (ci := 10) (t := 2) tyX10 0 dX10_init_12 hp0 g8 rfl (by decide) inX10 (by decide) (plX10_10 rfl rfl) rfl tyX10_ok nmX10 rfl (z_nf_o _ _) ?_
  refine Z_aload_n 0 dX10_init_15 rfl rfl ?_
  obtain ⟨g9, h⟩ := h
  obtain ⟨g10, h⟩ := h
  refine Z_newO (T := TX9) (N := 3) (ci := 9) tyX9 dX10_init_16 rfl (by decide) inX9 tyX9_ok df_9 clX10_16 in_X9 iz_X9 g9 g10 ?_
  refine Z_dup dX10_init_19 (by simp) ?_
  obtain ⟨g11, h⟩ := h
  obtain ⟨g15, h⟩ := h
  refine Z_invI (M' := mX9_init) (ρ' := rX9_init ((((n + 1) + 2) + 1) + 1)) (st := [(2, ((((n + 1) + 2) + 1 : Nat) : Int)), (2, p0)]) [] dX10_init_20 rfl ((z_l_pos (by rw [g9]; decide)).1) rfl rfl rfl (kX9_init.cl (Nat.le_of_ble_eq_true rfl) (Nat.le_add_right _ _) g15 (Nat.le_of_ble_eq_true rfl) (Nat.le_of_ble_eq_true rfl) (Nat.le_of_ble_eq_true rfl)) (mlX10_18 rfl) iX9_init h (z_kv (fun σ14 h => ?_))
  obtain ⟨g16, h⟩ := h
  refine Z_put (T := TX10) (N := 4) (ci := 10) (t := 2) tyX10 1 dX10_init_23 hp0 g16 rfl (by decide) inX10 (by decide) (plX10_19 rfl rfl) rfl tyX10_ok nmX10 rfl (z_nf_o _ _) ?_
  refine Z_aload_n 0 dX10_init_26 rfl rfl ?_
  obtain ⟨g17, h⟩ := h
  obtain ⟨g18, h⟩ := h
  refine Z_newO (T := TX9) (N := 3) (ci := 9) tyX9 dX10_init_27 rfl (by decide) inX9 tyX9_ok df_9 clX10_16 in_X9 iz_X9 g17 g18 ?_
  refine Z_dup dX10_init_30 (by simp) ?_
  obtain ⟨g19, h⟩ := h
  obtain ⟨g23, h⟩ := h
  refine Z_invI (M' := mX9_init) (ρ' := rX9_init ((((((n + 1) + 2) + 1) + 1) + 1) + 1)) (st := [(2, ((((((n + 1) + 2) + 1) + 1) + 1 : Nat) : Int)), (2, p0)]) [] dX10_init_31 rfl ((z_l_pos (by rw [g17]; decide)).1) rfl rfl rfl (kX9_init.cl (Nat.le_of_ble_eq_true rfl) (Nat.le_add_right _ _) g23 (Nat.le_of_ble_eq_true rfl) (Nat.le_of_ble_eq_true rfl) (Nat.le_of_ble_eq_true rfl)) (mlX10_18 rfl) iX9_init h (z_kv (fun σ22 h => ?_))
  obtain ⟨g24, h⟩ := h
  refine Z_put (T := TX10) (N := 4) (ci := 10) (t := 2) tyX10 2 dX10_init_34 hp0 g24 rfl (by decide) inX10 (by decide) (plX10_23 rfl rfl) rfl tyX10_ok nmX10 rfl (z_nf_o _ _) ?_
  refine Z_aload_n 0 dX10_init_37 rfl rfl ?_
  obtain ⟨g25, h⟩ := h
  obtain ⟨g26, h⟩ := h
  refine Z_newO (T := TX9) (N := 3) (ci := 9) tyX9 dX10_init_38 rfl (by decide) inX9 tyX9_ok df_9 clX10_16 in_X9 iz_X9 g25 g26 ?_
  refine Z_dup dX10_init_41 (by simp) ?_
  obtain ⟨g27, h⟩ := h
  obtain ⟨g31, h⟩ := h
  refine Z_invI (M' := mX9_init) (ρ' := rX9_init ((((((((n + 1) + 2) + 1) + 1) + 1) + 1) + 1) + 1)) (st := [(2, ((((((((n + 1) + 2) + 1) + 1) + 1) + 1) + 1 : Nat) : Int)), (2, p0)]) [] dX10_init_42 rfl ((z_l_pos (by rw [g25]; decide)).1) rfl rfl rfl (kX9_init.cl (Nat.le_of_ble_eq_true rfl) (Nat.le_add_right _ _) g31 (Nat.le_of_ble_eq_true rfl) (Nat.le_of_ble_eq_true rfl) (Nat.le_of_ble_eq_true rfl)) (mlX10_18 rfl) iX9_init h (z_kv (fun σ30 h => ?_))
  obtain ⟨g32, h⟩ := h
  refine Z_put (T := TX10) (N := 4) (ci := 10) (t := 2) tyX10 3 dX10_init_45 hp0 g32 rfl (by decide) inX10 (by decide) (plX10_26 rfl rfl) rfl tyX10_ok nmX10 rfl (z_nf_o _ _) ?_
  obtain ⟨g33, h⟩ := h
  exact Z_return dX10_init_48 rfl g33 ⟨rfl, h⟩
theorem bk_X10_isLarger {X : ZS} {σ : ZM} {T : Bool → ZM → Prop} {p1 : Int} (hp1 : z_l p1 = (3, 2)) {p2 : Int} (hp2 : z_l p2 = (3, 2)) (h : (Fix σ) ∧ ZC X (rX9_multiply zN) mX9_multiply [(2, 173), (2, (p1 + 1)), (2, (p2 + 3))] zN σ (zQv (fun σ3 => (Fix σ3) ∧ ZC X (rX9_multiply zN) mX9_multiply [(2, 175), (2, (p2 + 1)), (2, (p1 + 3))] zN σ3 (zQv (fun σ6 => (Fix σ6) ∧ ZC X (rX9_compareSize zN) mX9_compareSize [(2, 173), (2, 175)] zN σ6 (zQi (fun r8 σ9 => (r32 r8) ∧ ((r8 ≤ 0) → T false σ9) ∧ ((¬ (r8 ≤ 0)) → T true σ9)))))))) : ZC X (rX10_isLarger zN) mX10_isLarger [(2, 169), (2, p1), (2, p2)] zN σ (zQz T) := by
  show Z X _ _ 0 [(2, 169), (2, p1), (2, p2)] [] _ σ _
  refine Z_aload_n 0 dX10_isLarger_0 rfl rfl ?_
  obtain ⟨g1, h⟩ := h
  refine Z_get (T := TX10) (N := 4) (ci := 10) (t := 2) 1 dX10_isLarger_1 la_169 (z_leN la_169 (by decide)) rfl (by decide) inX10 (by decide) (flX10_19 rfl) rfl ?_
  refine Z_top (y := 173) ((Fix.get g1 la_169 1 4 (by decide +kernel)).trans (by clear h; omega)) ?_
  refine Z_aload_n 1 dX10_isLarger_4 rfl rfl ?_
  refine Z_get (T := TX3) (N := 2) (ci := 3) (t := 2) 0 dX10_isLarger_5 hp1 (z_leN hp1 (by decide)) rfl (by decide) inX3 (by decide) (flX10_29 rfl) rfl ?_
  refine Z_top (y := (p1 + 1)) (Fix.get g1 hp1 0 1 (by decide +kernel)) ?_
  refine Z_aload_n 2 dX10_isLarger_8 rfl rfl ?_
  refine Z_get (T := TX3) (N := 2) (ci := 3) (t := 2) 1 dX10_isLarger_9 hp2 (z_leN hp2 (by decide)) rfl (by decide) inX3 (by decide) (flX10_34 rfl) rfl ?_
  refine Z_top (y := (p2 + 3)) (Fix.get g1 hp2 1 3 (by decide +kernel)) ?_
  refine Z_invV (T := TX9) (N := 3) (ci := 9) (M' := mX9_multiply) (ρ' := rX9_multiply zN) (st := []) [(2, (p1 + 1)), (2, (p2 + 3))] dX10_isLarger_12 rfl rfl la_173 (z_leN la_173 (by decide)) (by decide) rfl rfl (kX9_multiply.cl (Nat.le_of_ble_eq_true rfl) (Nat.le_refl _) (Nat.le_refl _) (Nat.le_of_ble_eq_true rfl) (Nat.le_of_ble_eq_true rfl) (Nat.le_of_ble_eq_true rfl)) (mlX10_37 rfl) iX9_multiply sX9_multiply h (z_kv (fun σ3 h => ?_))
  refine Z_aload_n 0 dX10_isLarger_15 rfl rfl ?_
  obtain ⟨g4, h⟩ := h
  refine Z_get (T := TX10) (N := 4) (ci := 10) (t := 2) 2 dX10_isLarger_16 la_169 (z_leN la_169 (by decide)) rfl (by decide) inX10 (by decide) (flX10_23 rfl) rfl ?_
  refine Z_top (y := 175) ((Fix.get g4 la_169 2 6 (by decide +kernel)).trans (by clear h; omega)) ?_
  refine Z_aload_n 2 dX10_isLarger_19 rfl rfl ?_
  refine Z_get (T := TX3) (N := 2) (ci := 3) (t := 2) 0 dX10_isLarger_20 hp2 (z_leN hp2 (by decide)) rfl (by decide) inX3 (by decide) (flX10_29 rfl) rfl ?_
  refine Z_top (y := (p2 + 1)) (Fix.get g4 hp2 0 1 (by decide +kernel)) ?_
  refine Z_aload_n 1 dX10_isLarger_23 rfl rfl ?_
  refine Z_get (T := TX3) (N := 2) (ci := 3) (t := 2) 1 dX10_isLarger_24 hp1 (z_leN hp1 (by decide)) rfl (by decide) inX3 (by decide) (flX10_34 rfl) rfl ?_
  refine Z_top (y := (p1 + 3)) (Fix.get g4 hp1 1 3 (by decide +kernel)) ?_
  refine Z_invV (T := TX9) (N := 3) (ci := 9) (M' := mX9_multiply) (ρ' := rX9_multiply zN) (st := []) [(2, (p2 + 1)), (2, (p1 + 3))] dX10_isLarger_27 rfl rfl la_175 (z_leN la_175 (by decide)) (by decide) rfl rfl (kX9_multiply.cl (Nat.le_of_ble_eq_true rfl) (Nat.le_refl _) (Nat.le_refl _) (Nat.le_of_ble_eq_true rfl) (Nat.le_of_ble_eq_true rfl) (Nat.le_of_ble_eq_true rfl)) (mlX10_37 rfl) iX9_multiply sX9_multiply h (z_kv (fun σ6 h => ?_))
  refine Z_aload_n 0 dX10_isLarger_30 rfl rfl ?_
  obtain ⟨g7, h⟩ := h
  refine Z_get (T := TX10) (N := 4) (ci := 10) (t := 2) 1 dX10_isLarger_31 la_169 (z_leN la_169 (by decide)) rfl (by decide) inX10 (by decide) (flX10_19 rfl) rfl ?_
  refine Z_top (y := 173) ((Fix.get g7 la_169 1 4 (by decide +kernel)).trans (by clear h; omega)) ?_
  refine Z_aload_n 0 dX10_isLarger_34 rfl rfl ?_
  refine Z_get (T := TX10) (N := 4) (ci := 10) (t := 2) 2 dX10_isLarger_35 la_169 (z_leN la_169 (by decide)) rfl (by decide) inX10 (by decide) (flX10_23 rfl) rfl ?_
  refine Z_top (y := 175) ((Fix.get g7 la_169 2 6 (by decide +kernel)).trans (by clear h; omega)) ?_
  refine Z_invV (T := TX9) (N := 3) (ci := 9) (M' := mX9_compareSize) (ρ' := rX9_compareSize zN) (st := []) [(2, 175)] dX10_isLarger_38 rfl rfl la_173 (z_leN la_173 (by decide)) (by decide) rfl rfl (kX9_compareSize.cl (Nat.le_of_ble_eq_true rfl) (Nat.le_refl _) (Nat.le_refl _) (Nat.le_of_ble_eq_true rfl) (Nat.le_of_ble_eq_true rfl) (Nat.le_of_ble_eq_true rfl)) (mlX10_41 rfl) iX9_compareSize sX9_compareSize h (z_ki (fun r8 σ9 h => ?_))
  obtain ⟨g10, h⟩ := h
  refine Z_if_le (tgt := 48) dX10_isLarger_41 (by decide) g10 (fun c => ?_) (fun c => ?_)
  · replace h := h.1 c
    refine Z_iconst dX10_isLarger_48 ?_
    exact Z_zreturn dX10_isLarger_49 rfl (Or.inl rfl) rfl ⟨rfl, false, rfl, h⟩
  · replace h := h.2 c
    refine Z_iconst dX10_isLarger_44 ?_
    refine Z_goto (tgt := 49) dX10_isLarger_45 (by decide) ?_
    exact Z_zreturn dX10_isLarger_49 rfl (Or.inr rfl) rfl ⟨rfl, true, rfl, h⟩
theorem bk_X10_reduce {X : ZS} {σ : ZM} {T : ZM → Prop} {p1 : Int} (hp1 : z_l p1 = (3, 2)) (h : ZC X (rX10_findShared zN) mX10_findShared [(2, 169), (2, p1)] zN σ (zQa (fun r1 σ2 => (z_l r1 = (9, 3)) ∧ (r32 (σ2 r1 1)) ∧ ((¬ (σ2 r1 1) = 0) → (Fix σ2) ∧ ZC X (rX1_divide zN) mX1_divide [(2, 170), (2, (p1 + 1)), (2, r1), (2, (p1 + 1))] zN (z_up σ2 r1 2 (σ2 (p1 + 3) 2)) (zQv (fun σ7 => (Fix σ7) ∧ ZC X (rX1_divide zN) mX1_divide [(2, 170), (2, (p1 + 3)), (2, r1), (2, (p1 + 3))] zN σ7 (zQv (fun σ10 => T σ10))))) ∧ (((σ2 r1 1) = 0) → T σ2)))) : ZC X (rX10_reduce zN) mX10_reduce [(2, 169), (2, p1)] zN σ (zQv T) := by
  show Z X _ _ 0 [(2, 169), (2, p1), (9, 0)] [] _ σ _
  refine Z_aload_n 0 dX10_reduce_0 rfl rfl ?_
  refine Z_aload_n 1 dX10_reduce_1 rfl rfl ?_
  refine Z_invV (T := TX10) (N := 4) (ci := 10) (M' := mX10_findShared) (ρ' := rX10_findShared zN) (st := []) [(2, p1)] dX10_reduce_2 rfl rfl la_169 (z_leN la_169 (by decide)) (by decide) rfl rfl (kX10_findShared.cl (Nat.le_of_ble_eq_true rfl) (Nat.le_refl _) (Nat.le_refl _) (Nat.le_of_ble_eq_true rfl) (Nat.le_of_ble_eq_true rfl) (Nat.le_of_ble_eq_true rfl)) (mlX10_45 rfl) iX10_findShared sX10_findShared h (z_ka (fun r1 σ2 h => ?_))
  refine Z_astore_n (L' := [(2, 169), (2, p1), (2, r1)]) 2 dX10_reduce_5 rfl (Nat.le_of_ble_eq_true rfl) rfl ?_
  refine Z_aload_n 2 dX10_reduce_6 rfl rfl ?_
  obtain ⟨g3, h⟩ := h
  refine Z_get (T := TX9) (N := 3) (ci := 9) (t := 0) 1 dX10_reduce_7 g3 (z_leN g3 (by decide)) rfl (by decide) inX9 (by decide) (flX10_49 rfl) rfl ?_
  obtain ⟨g4, h⟩ := h
  refine Z_if_ne (tgt := 14) dX10_reduce_10 (by decide) g4 (fun c => ?_) (fun c => ?_)
  · replace h := h.1 c
    refine Z_aload_n 2 dX10_reduce_14 rfl rfl ?_
    refine Z_aload_n 1 dX10_reduce_15 rfl rfl ?_
    obtain ⟨g5, h⟩ := h
    refine Z_get (T := TX3) (N := 2) (ci := 3) (t := 2) 1 dX10_reduce_16 hp1 (z_leN hp1 (by decide)) rfl (by decide) inX3 (by decide) (flX10_34 rfl) rfl ?_
    refine Z_top (y := (p1 + 3)) (Fix.get g5 hp1 1 3 (by decide +kernel)) ?_
    refine Z_get (T := TX9) (N := 3) (ci := 9) (t := 0) 2 dX10_reduce_19 (zo_3_1 hp1) (z_leN (zo_3_1 hp1) (by decide)) rfl (by decide) inX9 (by decide) (flX10_53 rfl) rfl ?_
    refine Z_put (T := TX9) (N := 3) (ci := 9) (t := 0) tyX9 2 dX10_reduce_22 g3 (z_leN g3 (by decide)) rfl (by decide) inX9 (by decide) (plX10_53 rfl) rfl tyX9_ok nmX9 rfl (z_nf_i _) ?_
    refine Z_aload_n 0 dX10_reduce_25 rfl rfl ?_
    refine Z_get (T := TX10) (N := 4) (ci := 10) (t := 2) 0 dX10_reduce_26 la_169 (z_leN la_169 (by decide)) rfl (by decide) inX10 (by decide) (flX10_10 rfl) rfl ?_
    refine Z_top (y := 170) ((Fix.get (Fix.upF g5 g3 2 (by decide +kernel)) la_169 0 1 (by decide +kernel)).trans (by clear h; omega)) ?_
    refine Z_aload_n 1 dX10_reduce_29 rfl rfl ?_
    refine Z_get (T := TX3) (N := 2) (ci := 3) (t := 2) 0 dX10_reduce_30 hp1 (z_leN hp1 (by decide)) rfl (by decide) inX3 (by decide) (flX10_29 rfl) rfl ?_
    refine Z_top (y := (p1 + 1)) (Fix.get (Fix.upF g5 g3 2 (by decide +kernel)) hp1 0 1 (by decide +kernel)) ?_
    refine Z_aload_n 2 dX10_reduce_33 rfl rfl ?_
    refine Z_aload_n 1 dX10_reduce_34 rfl rfl ?_
    refine Z_get (T := TX3) (N := 2) (ci := 3) (t := 2) 0 dX10_reduce_35 hp1 (z_leN hp1 (by decide)) rfl (by decide) inX3 (by decide) (flX10_29 rfl) rfl ?_
    refine Z_top (y := (p1 + 1)) (Fix.get (Fix.upF g5 g3 2 (by decide +kernel)) hp1 0 1 (by decide +kernel)) ?_
    refine Z_invV (T := TX1) (N := 4) (ci := 1) (M' := mX1_divide) (ρ' := rX1_divide zN) (st := []) [(2, (p1 + 1)), (2, r1), (2, (p1 + 1))] dX10_reduce_38 rfl rfl la_170 (z_leN la_170 (by decide)) (by decide) rfl rfl (kX1_divide.cl (Nat.le_of_ble_eq_true rfl) (Nat.le_refl _) (Nat.le_refl _) (Nat.le_of_ble_eq_true rfl) (Nat.le_of_ble_eq_true rfl) (Nat.le_of_ble_eq_true rfl)) (mlX10_56 rfl) iX1_divide sX1_divide h (z_kv (fun σ7 h => ?_))
    refine Z_aload_n 0 dX10_reduce_41 rfl rfl ?_
    obtain ⟨g8, h⟩ := h
    refine Z_get (T := TX10) (N := 4) (ci := 10) (t := 2) 0 dX10_reduce_42 la_169 (z_leN la_169 (by decide)) rfl (by decide) inX10 (by decide) (flX10_10 rfl) rfl ?_
    refine Z_top (y := 170) ((Fix.get g8 la_169 0 1 (by decide +kernel)).trans (by clear h; omega)) ?_
    refine Z_aload_n 1 dX10_reduce_45 rfl rfl ?_
    refine Z_get (T := TX3) (N := 2) (ci := 3) (t := 2) 1 dX10_reduce_46 hp1 (z_leN hp1 (by decide)) rfl (by decide) inX3 (by decide) (flX10_34 rfl) rfl ?_
    refine Z_top (y := (p1 + 3)) (Fix.get g8 hp1 1 3 (by decide +kernel)) ?_
    refine Z_aload_n 2 dX10_reduce_49 rfl rfl ?_
    refine Z_aload_n 1 dX10_reduce_50 rfl rfl ?_
    refine Z_get (T := TX3) (N := 2) (ci := 3) (t := 2) 1 dX10_reduce_51 hp1 (z_leN hp1 (by decide)) rfl (by decide) inX3 (by decide) (flX10_34 rfl) rfl ?_
    refine Z_top (y := (p1 + 3)) (Fix.get g8 hp1 1 3 (by decide +kernel)) ?_
    refine Z_invV (T := TX1) (N := 4) (ci := 1) (M' := mX1_divide) (ρ' := rX1_divide zN) (st := []) [(2, (p1 + 3)), (2, r1), (2, (p1 + 3))] dX10_reduce_54 rfl rfl la_170 (z_leN la_170 (by decide)) (by decide) rfl rfl (kX1_divide.cl (Nat.le_of_ble_eq_true rfl) (Nat.le_refl _) (Nat.le_refl _) (Nat.le_of_ble_eq_true rfl) (Nat.le_of_ble_eq_true rfl) (Nat.le_of_ble_eq_true rfl)) (mlX10_56 rfl) iX1_divide sX1_divide h (z_kv (fun σ10 h => ?_))
    exact Z_return dX10_reduce_57 rfl rfl ⟨rfl, h⟩
  · replace h := h.2 c
    exact Z_return dX10_reduce_13 rfl rfl ⟨rfl, h⟩
theorem bk_X10_findShared {X : ZS} {σ : ZM} {T : Int → ZM → Prop} {p1 : Int} (hp1 : z_l p1 = (3, 2)) (h : (Fix σ) ∧ ZC X (rX9_copyFrom zN) mX9_copyFrom [(2, 173), (2, (p1 + 1))] zN σ (zQv (fun σ3 => (Fix σ3) ∧ ZC X (rX9_copyFrom zN) mX9_copyFrom [(2, 175), (2, (p1 + 3))] zN σ3 (zQv (fun σ6 => Z X (rX10_findShared zN) mX10_findShared 29 [(2, 169), (9, 0), (2, 173), (2, 175), (0, 0), (9, 0)] [] zN σ6 (zQa T)))))) : ZC X (rX10_findShared zN) mX10_findShared [(2, 169), (2, p1)] zN σ (zQa T) := by
  show Z X _ _ 0 [(2, 169), (2, p1), (9, 0), (9, 0), (9, 0), (9, 0)] [] _ σ _
  refine Z_aload_n 0 dX10_findShared_0 rfl rfl ?_
  obtain ⟨g1, h⟩ := h
  refine Z_get (T := TX10) (N := 4) (ci := 10) (t := 2) 1 dX10_findShared_1 la_169 (z_leN la_169 (by decide)) rfl (by decide) inX10 (by decide) (flX10_19 rfl) rfl ?_
  refine Z_top (y := 173) ((Fix.get g1 la_169 1 4 (by decide +kernel)).trans (by clear h; omega)) ?_
  refine Z_astore_n (L' := [(2, 169), (2, p1), (2, 173), (9, 0), (9, 0), (9, 0)]) 2 dX10_findShared_4 rfl (Nat.le_of_ble_eq_true rfl) rfl ?_
  refine Z_aload_n 0 dX10_findShared_5 rfl rfl ?_
  refine Z_get (T := TX10) (N := 4) (ci := 10) (t := 2) 2 dX10_findShared_6 la_169 (z_leN la_169 (by decide)) rfl (by decide) inX10 (by decide) (flX10_23 rfl) rfl ?_
  refine Z_top (y := 175) ((Fix.get g1 la_169 2 6 (by decide +kernel)).trans (by clear h; omega)) ?_
  refine Z_astore_n (L' := [(2, 169), (2, p1), (2, 173), (2, 175), (9, 0), (9, 0)]) 3 dX10_findShared_9 rfl (Nat.le_of_ble_eq_true rfl) rfl ?_
  refine Z_aload_n 2 dX10_findShared_10 rfl rfl ?_
  refine Z_aload_n 1 dX10_findShared_11 rfl rfl ?_
  refine Z_get (T := TX3) (N := 2) (ci := 3) (t := 2) 0 dX10_findShared_12 hp1 (z_leN hp1 (by decide)) rfl (by decide) inX3 (by decide) (flX10_29 rfl) rfl ?_
  refine Z_top (y := (p1 + 1)) (Fix.get g1 hp1 0 1 (by decide +kernel)) ?_
  refine Z_invV (T := TX9) (N := 3) (ci := 9) (M' := mX9_copyFrom) (ρ' := rX9_copyFrom zN) (st := []) [(2, (p1 + 1))] dX10_findShared_15 rfl rfl la_173 (z_leN la_173 (by decide)) (by decide) rfl rfl (kX9_copyFrom.cl (Nat.le_of_ble_eq_true rfl) (Nat.le_refl _) (Nat.le_refl _) (Nat.le_of_ble_eq_true rfl) (Nat.le_of_ble_eq_true rfl) (Nat.le_of_ble_eq_true rfl)) (mlX10_60 rfl) iX9_copyFrom sX9_copyFrom h (z_kv (fun σ3 h => ?_))
  refine Z_aload_n 3 dX10_findShared_18 rfl rfl ?_
  refine Z_aload_n 1 dX10_findShared_19 rfl rfl ?_
  obtain ⟨g4, h⟩ := h
  refine Z_get (T := TX3) (N := 2) (ci := 3) (t := 2) 1 dX10_findShared_20 hp1 (z_leN hp1 (by decide)) rfl (by decide) inX3 (by decide) (flX10_34 rfl) rfl ?_
  refine Z_top (y := (p1 + 3)) (Fix.get g4 hp1 1 3 (by decide +kernel)) ?_
  refine Z_invV (T := TX9) (N := 3) (ci := 9) (M' := mX9_copyFrom) (ρ' := rX9_copyFrom zN) (st := []) [(2, (p1 + 3))] dX10_findShared_23 rfl rfl la_175 (z_leN la_175 (by decide)) (by decide) rfl rfl (kX9_copyFrom.cl (Nat.le_of_ble_eq_true rfl) (Nat.le_refl _) (Nat.le_refl _) (Nat.le_of_ble_eq_true rfl) (Nat.le_of_ble_eq_true rfl) (Nat.le_of_ble_eq_true rfl)) (mlX10_60 rfl) iX9_copyFrom sX9_copyFrom h (z_kv (fun σ6 h => ?_))
  refine Z_iconst dX10_findShared_26 ?_
  refine Z_istore (L' := [(2, 169), (2, p1), (2, 173), (2, 175), (0, 0), (9, 0)]) dX10_findShared_27 (Nat.le_of_ble_eq_true rfl) rfl ?_
  exact Z_few (z_few_k (z_few_d (z_few_k (z_few_k (z_few_k (z_few_k z_few_0)))))) h
theorem bk_X10_findShared_29 {X : ZS} {σ : ZM} {T : Int → ZM → Prop} {p2 : Int} (hp2 : z_l p2 = (9, 3)) {p3 : Int} (hp3 : z_l p3 = (9, 3)) {x4 : Int} (h : (r32 x4) ∧ ((1000000 ≤ x4) → T p2 σ) ∧ ((¬ (1000000 ≤ x4)) → (r32 (σ p3 1)) ∧ (((σ p3 1) ≤ 0) → T p2 σ) ∧ ((¬ ((σ p3 1) ≤ 0)) → (Fix σ) ∧ ZC X (rX1_divide zN) mX1_divide [(2, 170), (2, p2), (2, p3), (2, 177)] zN σ (zQv (fun σ5 => (Fix σ5) ∧ ZC X (rX1_takeRest zN) mX1_takeRest [(2, 170), (2, p2)] zN σ5 (zQv (fun σ8 => Z X (rX10_findShared zN) mX10_findShared 29 [(2, 169), (9, 0), (2, p3), (2, p2), (0, (x4 + 1)), (9, 0)] [] zN σ8 (zQa T)))))))) : Z X (rX10_findShared zN) mX10_findShared 29 [(2, 169), (9, 0), (2, p2), (2, p3), (0, x4), (9, 0)] [] zN σ (zQa T) := by
  refine Z_iload dX10_findShared_29 rfl ?_
  refine Z_ldc (x := 1000000) dX10_findShared_31 ctX10_64 rfl ?_
  obtain ⟨g1, h⟩ := h
  refine Z_icmp_ge (tgt := 78) dX10_findShared_33 (by decide) g1 ⟨by decide, by decide⟩ (fun c => ?_) (fun c => ?_)
  · replace h := h.1 c
    refine Z_aload_n 2 dX10_findShared_78 rfl rfl ?_
    exact Z_areturn dX10_findShared_79 rfl rfl ⟨rfl, h⟩
  · replace h := h.2 c
    refine Z_aload_n 3 dX10_findShared_36 rfl rfl ?_
    refine Z_get (T := TX9) (N := 3) (ci := 9) (t := 0) 1 dX10_findShared_37 hp3 (z_leN hp3 (by decide)) rfl (by decide) inX9 (by decide) (flX10_49 rfl) rfl ?_
    obtain ⟨g2, h⟩ := h
    refine Z_if_le (tgt := 78) dX10_findShared_40 (by decide) g2 (fun c => ?_) (fun c => ?_)
    · replace h := h.1 c
      refine Z_aload_n 2 dX10_findShared_78 rfl rfl ?_
      exact Z_areturn dX10_findShared_79 rfl rfl ⟨rfl, h⟩
    · replace h := h.2 c
      refine Z_aload_n 0 dX10_findShared_43 rfl rfl ?_
      obtain ⟨g3, h⟩ := h
      refine Z_get (T := TX10) (N := 4) (ci := 10) (t := 2) 0 dX10_findShared_44 la_169 (z_leN la_169 (by decide)) rfl (by decide) inX10 (by decide) (flX10_10 rfl) rfl ?_
      refine Z_top (y := 170) ((Fix.get g3 la_169 0 1 (by decide +kernel)).trans (by clear h; omega)) ?_
      refine Z_aload_n 2 dX10_findShared_47 rfl rfl ?_
      refine Z_aload_n 3 dX10_findShared_48 rfl rfl ?_
      refine Z_aload_n 0 dX10_findShared_49 rfl rfl ?_
      refine Z_get (T := TX10) (N := 4) (ci := 10) (t := 2) 3 dX10_findShared_50 la_169 (z_leN la_169 (by decide)) rfl (by decide) inX10 (by decide) (flX10_26 rfl) rfl ?_
      refine Z_top (y := 177) ((Fix.get g3 la_169 3 8 (by decide +kernel)).trans (by clear h; omega)) ?_
      refine Z_invV (T := TX1) (N := 4) (ci := 1) (M' := mX1_divide) (ρ' := rX1_divide zN) (st := []) [(2, p2), (2, p3), (2, 177)] dX10_findShared_53 rfl rfl la_170 (z_leN la_170 (by decide)) (by decide) rfl rfl (kX1_divide.cl (Nat.le_of_ble_eq_true rfl) (Nat.le_refl _) (Nat.le_refl _) (Nat.le_of_ble_eq_true rfl) (Nat.le_of_ble_eq_true rfl) (Nat.le_of_ble_eq_true rfl)) (mlX10_56 rfl) iX1_divide sX1_divide h (z_kv (fun σ5 h => ?_))
      refine Z_aload_n 0 dX10_findShared_56 rfl rfl ?_
      obtain ⟨g6, h⟩ := h
      refine Z_get (T := TX10) (N := 4) (ci := 10) (t := 2) 0 dX10_findShared_57 la_169 (z_leN la_169 (by decide)) rfl (by decide) inX10 (by decide) (flX10_10 rfl) rfl ?_
      refine Z_top (y := 170) ((Fix.get g6 la_169 0 1 (by decide +kernel)).trans (by clear h; omega)) ?_
      refine Z_aload_n 2 dX10_findShared_60 rfl rfl ?_
      refine Z_invV (T := TX1) (N := 4) (ci := 1) (M' := mX1_takeRest) (ρ' := rX1_takeRest zN) (st := []) [(2, p2)] dX10_findShared_61 rfl rfl la_170 (z_leN la_170 (by decide)) (by decide) rfl rfl (kX1_takeRest.cl (Nat.le_of_ble_eq_true rfl) (Nat.le_refl _) (Nat.le_refl _) (Nat.le_of_ble_eq_true rfl) (Nat.le_of_ble_eq_true rfl) (Nat.le_of_ble_eq_true rfl)) (mlX10_65 rfl) iX1_takeRest sX1_takeRest h (z_kv (fun σ8 h => ?_))
      refine Z_aload_n 2 dX10_findShared_64 rfl rfl ?_
      refine Z_astore (L' := [(2, 169), (9, 0), (2, p2), (2, p3), (0, x4), (2, p2)]) dX10_findShared_65 (Nat.le_of_ble_eq_true rfl) rfl ?_
      refine Z_aload_n 3 dX10_findShared_67 rfl rfl ?_
      refine Z_astore_n (L' := [(2, 169), (9, 0), (2, p3), (2, p3), (0, x4), (2, p2)]) 2 dX10_findShared_68 rfl (Nat.le_of_ble_eq_true rfl) rfl ?_
      refine Z_aload dX10_findShared_69 rfl ?_
      refine Z_astore_n (L' := [(2, 169), (9, 0), (2, p3), (2, p2), (0, x4), (2, p2)]) 3 dX10_findShared_71 rfl (Nat.le_of_ble_eq_true rfl) rfl ?_
      refine Z_iinc (L' := [(2, 169), (9, 0), (2, p3), (2, p2), (0, (x4 + 1)), (2, p2)]) dX10_findShared_72 rfl (Nat.le_of_ble_eq_true rfl) rfl ?_
      refine Z_goto (tgt := 29) dX10_findShared_75 (by decide) ?_
      exact Z_few (z_few_k (z_few_k (z_few_k (z_few_k (z_few_k (z_few_d z_few_0)))))) h
