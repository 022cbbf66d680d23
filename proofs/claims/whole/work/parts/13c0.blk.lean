theorem bk_X0_init {X : ZS} {n : Nat} {n1 : Nat} {σ : ZM} {T : ZM → Prop} {p0 : Int} (hp0 : z_l p0 = (0, 7)) (h : (z_l ((n + 1 : Nat) : Int) = (23, 8)) ∧ (n + 1 ≤ n1) ∧ (p0.toNat ≤ (n + 1)) ∧ (z_l (((n + 1) + 1 : Nat) : Int) = (9, 3)) ∧ ((n + 1) + 1 ≤ n1) ∧ ((((n + 1) + 1 : Nat) : Int).toNat ≤ ((n + 1) + 1)) ∧ ((((n + 1) + 1) + 1) ≤ n1) ∧ ZC X (rX9_init (((n + 1) + 1) + 1)) mX9_init [(2, (((n + 1) + 1 : Nat) : Int))] ((n + 1) + 1) (z_new (z_up (z_new σ ((n + 1 : Nat) : Int)) p0 0 ((n + 1 : Nat) : Int)) (((n + 1) + 1 : Nat) : Int)) (zQv (fun σ9 => (p0.toNat ≤ (((n + 1) + 1) + 1)) ∧ (z_l (((((n + 1) + 1) + 1) + 1 : Nat) : Int) = (9, 3)) ∧ ((((n + 1) + 1) + 1) + 1 ≤ n1) ∧ ((((((n + 1) + 1) + 1) + 1 : Nat) : Int).toNat ≤ ((((n + 1) + 1) + 1) + 1)) ∧ ((((((n + 1) + 1) + 1) + 1) + 1) ≤ n1) ∧ ZC X (rX9_init (((((n + 1) + 1) + 1) + 1) + 1)) mX9_init [(2, (((((n + 1) + 1) + 1) + 1 : Nat) : Int))] ((((n + 1) + 1) + 1) + 1) (z_new (z_up σ9 p0 1 (((n + 1) + 1 : Nat) : Int)) (((((n + 1) + 1) + 1) + 1 : Nat) : Int)) (zQv (fun σ17 => (p0.toNat ≤ (((((n + 1) + 1) + 1) + 1) + 1)) ∧ (z_l (((((((n + 1) + 1) + 1) + 1) + 1) + 1 : Nat) : Int) = (9, 3)) ∧ ((((((n + 1) + 1) + 1) + 1) + 1) + 1 ≤ n1) ∧ ((((((((n + 1) + 1) + 1) + 1) + 1) + 1 : Nat) : Int).toNat ≤ ((((((n + 1) + 1) + 1) + 1) + 1) + 1)) ∧ ((((((((n + 1) + 1) + 1) + 1) + 1) + 1) + 1) ≤ n1) ∧ ZC X (rX9_init (((((((n + 1) + 1) + 1) + 1) + 1) + 1) + 1)) mX9_init [(2, (((((((n + 1) + 1) + 1) + 1) + 1) + 1 : Nat) : Int))] ((((((n + 1) + 1) + 1) + 1) + 1) + 1) (z_new (z_up σ17 p0 2 (((((n + 1) + 1) + 1) + 1 : Nat) : Int)) (((((((n + 1) + 1) + 1) + 1) + 1) + 1 : Nat) : Int)) (zQv (fun σ25 => (p0.toNat ≤ (((((((n + 1) + 1) + 1) + 1) + 1) + 1) + 1)) ∧ (z_l (((((((((n + 1) + 1) + 1) + 1) + 1) + 1) + 1) + 1 : Nat) : Int) = (9, 3)) ∧ ((((((((n + 1) + 1) + 1) + 1) + 1) + 1) + 1) + 1 ≤ n1) ∧ ((((((((((n + 1) + 1) + 1) + 1) + 1) + 1) + 1) + 1 : Nat) : Int).toNat ≤ ((((((((n + 1) + 1) + 1) + 1) + 1) + 1) + 1) + 1)) ∧ ((((((((((n + 1) + 1) + 1) + 1) + 1) + 1) + 1) + 1) + 1) ≤ n1) ∧ ZC X (rX9_init (((((((((n + 1) + 1) + 1) + 1) + 1) + 1) + 1) + 1) + 1)) mX9_init [(2, (((((((((n + 1) + 1) + 1) + 1) + 1) + 1) + 1) + 1 : Nat) : Int))] ((((((((n + 1) + 1) + 1) + 1) + 1) + 1) + 1) + 1) (z_new (z_up σ25 p0 3 (((((((n + 1) + 1) + 1) + 1) + 1) + 1 : Nat) : Int)) (((((((((n + 1) + 1) + 1) + 1) + 1) + 1) + 1) + 1 : Nat) : Int)) (zQv (fun σ33 => (p0.toNat ≤ (((((((((n + 1) + 1) + 1) + 1) + 1) + 1) + 1) + 1) + 1)) ∧ (z_l (((((((((((n + 1) + 1) + 1) + 1) + 1) + 1) + 1) + 1) + 1) + 1 : Nat) : Int) = (9, 3)) ∧ ((((((((((n + 1) + 1) + 1) + 1) + 1) + 1) + 1) + 1) + 1) + 1 ≤ n1) ∧ ((((((((((((n + 1) + 1) + 1) + 1) + 1) + 1) + 1) + 1) + 1) + 1 : Nat) : Int).toNat ≤ ((((((((((n + 1) + 1) + 1) + 1) + 1) + 1) + 1) + 1) + 1) + 1)) ∧ ((((((((((((n + 1) + 1) + 1) + 1) + 1) + 1) + 1) + 1) + 1) + 1) + 1) ≤ n1) ∧ ZC X (rX9_init (((((((((((n + 1) + 1) + 1) + 1) + 1) + 1) + 1) + 1) + 1) + 1) + 1)) mX9_init [(2, (((((((((((n + 1) + 1) + 1) + 1) + 1) + 1) + 1) + 1) + 1) + 1 : Nat) : Int))] ((((((((((n + 1) + 1) + 1) + 1) + 1) + 1) + 1) + 1) + 1) + 1) (z_new (z_up σ33 p0 4 (((((((((n + 1) + 1) + 1) + 1) + 1) + 1) + 1) + 1 : Nat) : Int)) (((((((((((n + 1) + 1) + 1) + 1) + 1) + 1) + 1) + 1) + 1) + 1 : Nat) : Int)) (zQv (fun σ41 => (p0.toNat ≤ (((((((((((n + 1) + 1) + 1) + 1) + 1) + 1) + 1) + 1) + 1) + 1) + 1)) ∧ Z X (rX0_init n1) mX0_init 70 [(2, p0), (0, 0)] [] (((((((((((n + 1) + 1) + 1) + 1) + 1) + 1) + 1) + 1) + 1) + 1) + 1) (z_up σ41 p0 5 (((((((((((n + 1) + 1) + 1) + 1) + 1) + 1) + 1) + 1) + 1) + 1 : Nat) : Int)) (zQv T)))))))))))) : ZC X (rX0_init n1) mX0_init [(2, p0)] n σ (zQv T) := by
  show Z X _ _ 0 [(2, p0), (9, 0)] [] _ σ _
  refine Z_aload_n 0 dX0_init_0 rfl rfl ?_
  refine Z_objInit dX0_init_1 ((z_l_pos (by rw [hp0]; decide)).1) mlX0_3 ob_i ob_c (Nat.le_of_ble_eq_true rfl) (Nat.le_of_ble_eq_true rfl) (Nat.le_of_ble_eq_true rfl) ?_
  refine Z_aload_n 0 dX0_init_4 rfl rfl ?_
  refine Z_bipush dX0_init_5 (by decide) ?_
  obtain ⟨g1, h⟩ := h
  obtain ⟨g2, h⟩ := h
  refine Z_newR dX0_init_7 ao_W clX0_9 g1 rfl g2 ?_
  obtain ⟨g3, h⟩ := h
  refine Z_put (T := TX0) (N := 7) (ci := 0) (t := 2) tyX0 0 dX0_init_10 hp0 g3 rfl (by decide) inX0 (by decide) (plX0_11 rfl rfl) rfl tyX0_ok nmX0 rfl (z_nf_a _ _) ?_
  refine Z_aload_n 0 dX0_init_13 rfl rfl ?_
  obtain ⟨g4, h⟩ := h
  obtain ⟨g5, h⟩ := h
  refine Z_newO (T := TX9) (N := 3) (ci := 9) tyX9 dX0_init_14 rfl (by decide) inX9 tyX9_ok df_9 clX0_9 in_X9 iz_X9 g4 g5 ?_
  refine Z_dup dX0_init_17 (by simp) ?_
  obtain ⟨g6, h⟩ := h
  obtain ⟨g10, h⟩ := h
  refine Z_invI (M' := mX9_init) (ρ' := rX9_init (((n + 1) + 1) + 1)) (st := [(2, (((n + 1) + 1 : Nat) : Int)), (2, p0)]) [] dX0_init_18 rfl ((z_l_pos (by rw [g4]; decide)).1) rfl rfl rfl (kX9_init.cl (Nat.le_of_ble_eq_true rfl) (Nat.le_add_right _ _) g10 (Nat.le_of_ble_eq_true rfl) (Nat.le_of_ble_eq_true rfl) (Nat.le_of_ble_eq_true rfl)) (mlX0_17 rfl) iX9_init h (z_kv (fun σ9 h => ?_))
  obtain ⟨g11, h⟩ := h
  refine Z_put (T := TX0) (N := 7) (ci := 0) (t := 2) tyX0 1 dX0_init_21 hp0 g11 rfl (by decide) inX0 (by decide) (plX0_18 rfl rfl) rfl tyX0_ok nmX0 rfl (z_nf_o _ _) ?_
  refine Z_aload_n 0 dX0_init_24 rfl rfl ?_
  obtain ⟨g12, h⟩ := h
  obtain ⟨g13, h⟩ := h
  refine Z_newO (T := TX9) (N := 3) (ci := 9) tyX9 dX0_init_25 rfl (by decide) inX9 tyX9_ok df_9 clX0_9 in_X9 iz_X9 g12 g13 ?_
  refine Z_dup dX0_init_28 (by simp) ?_
  obtain ⟨g14, h⟩ := h
  obtain ⟨g18, h⟩ := h
  refine Z_invI (M' := mX9_init) (ρ' := rX9_init (((((n + 1) + 1) + 1) + 1) + 1)) (st := [(2, (((((n + 1) + 1) + 1) + 1 : Nat) : Int)), (2, p0)]) [] dX0_init_29 rfl ((z_l_pos (by rw [g12]; decide)).1) rfl rfl rfl (kX9_init.cl (Nat.le_of_ble_eq_true rfl) (Nat.le_add_right _ _) g18 (Nat.le_of_ble_eq_true rfl) (Nat.le_of_ble_eq_true rfl) (Nat.le_of_ble_eq_true rfl)) (mlX0_17 rfl) iX9_init h (z_kv (fun σ17 h => ?_))
  obtain ⟨g19, h⟩ := h
  refine Z_put (T := TX0) (N := 7) (ci := 0) (t := 2) tyX0 2 dX0_init_32 hp0 g19 rfl (by decide) inX0 (by decide) (plX0_22 rfl rfl) rfl tyX0_ok nmX0 rfl (z_nf_o _ _) ?_
  refine Z_aload_n 0 dX0_init_35 rfl rfl ?_
  obtain ⟨g20, h⟩ := h
  obtain ⟨g21, h⟩ := h
  refine Z_newO (T := TX9) (N := 3) (ci := 9) tyX9 dX0_init_36 rfl (by decide) inX9 tyX9_ok df_9 clX0_9 in_X9 iz_X9 g20 g21 ?_
  refine Z_dup dX0_init_39 (by simp) ?_
  obtain ⟨g22, h⟩ := h
  obtain ⟨g26, h⟩ := h
  refine Z_invI (M' := mX9_init) (ρ' := rX9_init (((((((n + 1) + 1) + 1) + 1) + 1) + 1) + 1)) (st := [(2, (((((((n + 1) + 1) + 1) + 1) + 1) + 1 : Nat) : Int)), (2, p0)]) [] dX0_init_40 rfl ((z_l_pos (by rw [g20]; decide)).1) rfl rfl rfl (kX9_init.cl (Nat.le_of_ble_eq_true rfl) (Nat.le_add_right _ _) g26 (Nat.le_of_ble_eq_true rfl) (Nat.le_of_ble_eq_true rfl) (Nat.le_of_ble_eq_true rfl)) (mlX0_17 rfl) iX9_init h (z_kv (fun σ25 h => ?_))
  obtain ⟨g27, h⟩ := h
  refine Z_put (T := TX0) (N := 7) (ci := 0) (t := 2) tyX0 3 dX0_init_43 hp0 g27 rfl (by decide) inX0 (by decide) (plX0_25 rfl rfl) rfl tyX0_ok nmX0 rfl (z_nf_o _ _) ?_
  refine Z_aload_n 0 dX0_init_46 rfl rfl ?_
  obtain ⟨g28, h⟩ := h
  obtain ⟨g29, h⟩ := h
  refine Z_newO (T := TX9) (N := 3) (ci := 9) tyX9 dX0_init_47 rfl (by decide) inX9 tyX9_ok df_9 clX0_9 in_X9 iz_X9 g28 g29 ?_
  refine Z_dup dX0_init_50 (by simp) ?_
  obtain ⟨g30, h⟩ := h
  obtain ⟨g34, h⟩ := h
  refine Z_invI (M' := mX9_init) (ρ' := rX9_init (((((((((n + 1) + 1) + 1) + 1) + 1) + 1) + 1) + 1) + 1)) (st := [(2, (((((((((n + 1) + 1) + 1) + 1) + 1) + 1) + 1) + 1 : Nat) : Int)), (2, p0)]) [] dX0_init_51 rfl ((z_l_pos (by rw [g28]; decide)).1) rfl rfl rfl (kX9_init.cl (Nat.le_of_ble_eq_true rfl) (Nat.le_add_right _ _) g34 (Nat.le_of_ble_eq_true rfl) (Nat.le_of_ble_eq_true rfl) (Nat.le_of_ble_eq_true rfl)) (mlX0_17 rfl) iX9_init h (z_kv (fun σ33 h => ?_))
  obtain ⟨g35, h⟩ := h
  refine Z_put (T := TX0) (N := 7) (ci := 0) (t := 2) tyX0 4 dX0_init_54 hp0 g35 rfl (by decide) inX0 (by decide) (plX0_28 rfl rfl) rfl tyX0_ok nmX0 rfl (z_nf_o _ _) ?_
  refine Z_aload_n 0 dX0_init_57 rfl rfl ?_
  obtain ⟨g36, h⟩ := h
  obtain ⟨g37, h⟩ := h
  refine Z_newO (T := TX9) (N := 3) (ci := 9) tyX9 dX0_init_58 rfl (by decide) inX9 tyX9_ok df_9 clX0_9 in_X9 iz_X9 g36 g37 ?_
  refine Z_dup dX0_init_61 (by simp) ?_
  obtain ⟨g38, h⟩ := h
  obtain ⟨g42, h⟩ := h
  refine Z_invI (M' := mX9_init) (ρ' := rX9_init (((((((((((n + 1) + 1) + 1) + 1) + 1) + 1) + 1) + 1) + 1) + 1) + 1)) (st := [(2, (((((((((((n + 1) + 1) + 1) + 1) + 1) + 1) + 1) + 1) + 1) + 1 : Nat) : Int)), (2, p0)]) [] dX0_init_62 rfl ((z_l_pos (by rw [g36]; decide)).1) rfl rfl rfl (kX9_init.cl (Nat.le_of_ble_eq_true rfl) (Nat.le_add_right _ _) g42 (Nat.le_of_ble_eq_true rfl) (Nat.le_of_ble_eq_true rfl) (Nat.le_of_ble_eq_true rfl)) (mlX0_17 rfl) iX9_init h (z_kv (fun σ41 h => ?_))
  obtain ⟨g43, h⟩ := h
  refine Z_put (T := TX0) (N := 7) (ci := 0) (t := 2) tyX0 5 dX0_init_65 hp0 g43 rfl (by decide) inX0 (by decide) (plX0_31 rfl rfl) rfl tyX0_ok nmX0 rfl (z_nf_o _ _) ?_
  refine Z_iconst dX0_init_68 ?_
  refine Z_istore_n (L' := [(2, p0), (0, 0)]) 1 dX0_init_69 rfl (Nat.le_of_ble_eq_true rfl) rfl ?_
  exact Z_few (z_few_k (z_few_k z_few_0)) h
theorem bk_X0_init_70 {X : ZS} {n : Nat} {n1 : Nat} {σ : ZM} {T : ZM → Prop} {p0 : Int} (hp0 : z_l p0 = (0, 7)) {x1 : Int} (h : (r32 x1) ∧ ((8 ≤ x1) → (n = n1) ∧ T σ) ∧ ((¬ (8 ≤ x1)) → (p0.toNat ≤ n) ∧ (σ p0 0 = (p0 + 1)) ∧ (z_l ((n + 1 : Nat) : Int) = (9, 3)) ∧ (n + 1 ≤ n1) ∧ (((n + 1 : Nat) : Int).toNat ≤ (n + 1)) ∧ (((n + 1) + 1) ≤ n1) ∧ ZC X (rX9_init ((n + 1) + 1)) mX9_init [(2, ((n + 1 : Nat) : Int))] (n + 1) (z_new σ ((n + 1 : Nat) : Int)) (zQv (fun σ10 => ((p0 + 1).toNat ≤ ((n + 1) + 1)) ∧ (0 ≤ x1) ∧ (x1 < 8) ∧ (((n + 1 : Nat) : Int).toNat ≤ ((n + 1) + 1)) ∧ Z X (rX0_init n1) mX0_init 70 [(2, p0), (0, (x1 + 1))] [] ((n + 1) + 1) (z_up σ10 (p0 + 1) x1 ((n + 1 : Nat) : Int)) (zQv T))))) : Z X (rX0_init n1) mX0_init 70 [(2, p0), (0, x1)] [] n σ (zQv T) := by
  refine Z_iload_n 1 dX0_init_70 rfl rfl ?_
  refine Z_bipush dX0_init_71 (by decide) ?_
  obtain ⟨g1, h⟩ := h
  refine Z_icmp_ge (tgt := 95) dX0_init_73 (by decide) g1 ⟨by decide, by decide⟩ (fun c => ?_) (fun c => ?_)
  · replace h := h.1 c
    obtain ⟨g2, h⟩ := h
    exact Z_return dX0_init_95 rfl g2 ⟨rfl, h⟩
  · replace h := h.2 c
    refine Z_aload_n 0 dX0_init_76 rfl rfl ?_
    obtain ⟨g3, h⟩ := h
    obtain ⟨g4, h⟩ := h
    refine Z_get (T := TX0) (N := 7) (ci := 0) (t := 2) 0 dX0_init_77 hp0 g3 rfl (by decide) inX0 (by decide) (flX0_11 rfl) rfl ?_
    refine Z_top g4 ?_
    refine Z_iload_n 1 dX0_init_80 rfl rfl ?_
    obtain ⟨g5, h⟩ := h
    obtain ⟨g6, h⟩ := h
    refine Z_newO (T := TX9) (N := 3) (ci := 9) tyX9 dX0_init_81 rfl (by decide) inX9 tyX9_ok df_9 clX0_9 in_X9 iz_X9 g5 g6 ?_
    refine Z_dup dX0_init_84 (by simp) ?_
    obtain ⟨g7, h⟩ := h
    obtain ⟨g11, h⟩ := h
    refine Z_invI (M' := mX9_init) (ρ' := rX9_init ((n + 1) + 1)) (st := [(2, ((n + 1 : Nat) : Int)), (0, x1), (2, (p0 + 1))]) [] dX0_init_85 rfl ((z_l_pos (by rw [g5]; decide)).1) rfl rfl rfl (kX9_init.cl (Nat.le_of_ble_eq_true rfl) (Nat.le_add_right _ _) g11 (Nat.le_of_ble_eq_true rfl) (Nat.le_of_ble_eq_true rfl) (Nat.le_of_ble_eq_true rfl)) (mlX0_17 rfl) iX9_init h (z_kv (fun σ10 h => ?_))
    obtain ⟨g12, h⟩ := h
    obtain ⟨g13, h⟩ := h
    obtain ⟨g14, h⟩ := h
    obtain ⟨g15, h⟩ := h
    refine Z_aast dX0_init_88 (zo_0_0 hp0) g12 g13 g14 g5 g15 ?_
    refine Z_iinc (L' := [(2, p0), (0, (x1 + 1))]) dX0_init_89 rfl (Nat.le_of_ble_eq_true rfl) rfl ?_
    refine Z_goto (tgt := 70) dX0_init_92 (by decide) ?_
    exact Z_few (z_few_k (z_few_k z_few_0)) h
theorem bk_X0_take {X : ZS} {σ : ZM} {T : ZM → Prop} {p3 : Int} (hp3 : z_l p3 = (7, 3)) {x4 : Int} (h : (Fix σ) ∧ ZC X (rX9_put zN) mX9_put [(2, 147), (1, 0)] zN (z_up σ 141 6 1) (zQv (fun σ3 => (Fix σ3) ∧ ZC X (rX9_addTimes zN) mX9_addTimes [(2, 147), (2, 20), (0, (σ3 11 5))] zN σ3 (zQv (fun σ6 => (Fix σ6) ∧ ZC X (rX9_put zN) mX9_put [(2, 151), (1, 0)] zN σ6 (zQv (fun σ9 => (Fix σ9) ∧ ZC X (rX9_addTimes zN) mX9_addTimes [(2, 151), (2, 147), (0, (σ9 11 5))] zN σ9 (zQv (fun σ12 => ZC X (rX0_takeWeights zN) mX0_takeWeights [(2, 141), (2, 11), (2, 16)] zN σ12 (zQv (fun σ14 => (Fix σ14) ∧ ZC X (rX9_put zN) mX9_put [(2, 143), (1, 0)] zN σ14 (zQv (fun σ17 => (Fix σ17) ∧ ZC X (rX9_put zN) mX9_put [(2, 145), (1, 0)] zN σ17 (zQv (fun σ20 => (Fix σ20) ∧ ZC X (rX9_addTimes zN) mX9_addTimes [(2, 145), (2, 20), (0, (σ20 14 0))] zN σ20 (zQv (fun σ23 => (Fix σ23) ∧ ZC X (rX9_put zN) mX9_put [(2, 149), (1, 0)] zN σ23 (zQv (fun σ26 => (Fix σ26) ∧ ZC X (rX9_addTimes zN) mX9_addTimes [(2, 149), (2, 20), (0, (-x4))] zN σ26 (zQv (fun σ29 => Z X (rX0_take zN) mX0_take 115 [(2, 141), (2, 11), (9, 0), (2, p3), (9, 0), (0, 0), (9, 0)] [] zN σ29 (zQv T)))))))))))))))))))))) : ZC X (rX0_take zN) mX0_take [(2, 141), (2, 11), (2, 16), (2, p3), (0, x4)] zN σ (zQv T) := by
  show Z X _ _ 0 [(2, 141), (2, 11), (2, 16), (2, p3), (0, x4), (9, 0), (9, 0)] [] _ σ _
  refine Z_aload_n 0 dX0_take_0 rfl rfl ?_
  refine Z_iconst dX0_take_1 ?_
  refine Z_put (T := TX0) (N := 7) (ci := 0) (t := 0) tyX0 6 dX0_take_2 la_141 (z_leN la_141 (by decide)) rfl (by decide) inX0 (by decide) (plX0_34 rfl) rfl tyX0_ok nmX0 rfl (z_nf_z (Or.inr rfl)) ?_
  refine Z_aload_n 0 dX0_take_5 rfl rfl ?_
  obtain ⟨g1, h⟩ := h
  refine Z_get (T := TX0) (N := 7) (ci := 0) (t := 2) 3 dX0_take_6 la_141 (z_leN la_141 (by decide)) rfl (by decide) inX0 (by decide) (flX0_25 rfl) rfl ?_
  refine Z_top (y := 147) ((Fix.get (Fix.upF g1 la_141 6 (by decide +kernel)) la_141 3 6 (by decide +kernel)).trans (by clear h; omega)) ?_
  refine Z_lconst (x := 0) dX0_take_9 rfl ?_
  refine Z_invV (T := TX9) (N := 3) (ci := 9) (M' := mX9_put) (ρ' := rX9_put zN) (st := []) [(1, 0)] dX0_take_10 rfl rfl la_147 (z_leN la_147 (by decide)) (by decide) rfl rfl (kX9_put.cl (Nat.le_of_ble_eq_true rfl) (Nat.le_refl _) (Nat.le_refl _) (Nat.le_of_ble_eq_true rfl) (Nat.le_of_ble_eq_true rfl) (Nat.le_of_ble_eq_true rfl)) (mlX0_38 rfl) iX9_put sX9_put h (z_kv (fun σ3 h => ?_))
  refine Z_aload_n 0 dX0_take_13 rfl rfl ?_
  obtain ⟨g4, h⟩ := h
  refine Z_get (T := TX0) (N := 7) (ci := 0) (t := 2) 3 dX0_take_14 la_141 (z_leN la_141 (by decide)) rfl (by decide) inX0 (by decide) (flX0_25 rfl) rfl ?_
  refine Z_top (y := 147) ((Fix.get g4 la_141 3 6 (by decide +kernel)).trans (by clear h; omega)) ?_
  refine Z_aload_n 2 dX0_take_17 rfl rfl ?_
  refine Z_get (T := TX4) (N := 6) (ci := 4) (t := 2) 2 dX0_take_18 la_16 (z_leN la_16 (by decide)) rfl (by decide) inX4 (by decide) (flX0_42 rfl) rfl ?_
  refine Z_top (y := 20) ((Fix.get g4 la_16 2 4 (by decide +kernel)).trans (by clear h; omega)) ?_
  refine Z_aload_n 1 dX0_take_21 rfl rfl ?_
  refine Z_get (T := TX2) (N := 6) (ci := 2) (t := 0) 5 dX0_take_22 la_11 (z_leN la_11 (by decide)) rfl (by decide) inX2 (by decide) (flX0_45 rfl) rfl ?_
  refine Z_invV (T := TX9) (N := 3) (ci := 9) (M' := mX9_addTimes) (ρ' := rX9_addTimes zN) (st := []) [(2, 20), (0, (σ3 11 5))] dX0_take_25 rfl rfl la_147 (z_leN la_147 (by decide)) (by decide) rfl rfl (kX9_addTimes.cl (Nat.le_of_ble_eq_true rfl) (Nat.le_refl _) (Nat.le_refl _) (Nat.le_of_ble_eq_true rfl) (Nat.le_of_ble_eq_true rfl) (Nat.le_of_ble_eq_true rfl)) (mlX0_51 rfl) iX9_addTimes sX9_addTimes h (z_kv (fun σ6 h => ?_))
  refine Z_aload_n 0 dX0_take_28 rfl rfl ?_
  obtain ⟨g7, h⟩ := h
  refine Z_get (T := TX0) (N := 7) (ci := 0) (t := 2) 5 dX0_take_29 la_141 (z_leN la_141 (by decide)) rfl (by decide) inX0 (by decide) (flX0_31 rfl) rfl ?_
  refine Z_top (y := 151) ((Fix.get g7 la_141 5 10 (by decide +kernel)).trans (by clear h; omega)) ?_
  refine Z_lconst (x := 0) dX0_take_32 rfl ?_
  refine Z_invV (T := TX9) (N := 3) (ci := 9) (M' := mX9_put) (ρ' := rX9_put zN) (st := []) [(1, 0)] dX0_take_33 rfl rfl la_151 (z_leN la_151 (by decide)) (by decide) rfl rfl (kX9_put.cl (Nat.le_of_ble_eq_true rfl) (Nat.le_refl _) (Nat.le_refl _) (Nat.le_of_ble_eq_true rfl) (Nat.le_of_ble_eq_true rfl) (Nat.le_of_ble_eq_true rfl)) (mlX0_38 rfl) iX9_put sX9_put h (z_kv (fun σ9 h => ?_))
  refine Z_aload_n 0 dX0_take_36 rfl rfl ?_
  obtain ⟨g10, h⟩ := h
  refine Z_get (T := TX0) (N := 7) (ci := 0) (t := 2) 5 dX0_take_37 la_141 (z_leN la_141 (by decide)) rfl (by decide) inX0 (by decide) (flX0_31 rfl) rfl ?_
  refine Z_top (y := 151) ((Fix.get g10 la_141 5 10 (by decide +kernel)).trans (by clear h; omega)) ?_
  refine Z_aload_n 0 dX0_take_40 rfl rfl ?_
  refine Z_get (T := TX0) (N := 7) (ci := 0) (t := 2) 3 dX0_take_41 la_141 (z_leN la_141 (by decide)) rfl (by decide) inX0 (by decide) (flX0_25 rfl) rfl ?_
  refine Z_top (y := 147) ((Fix.get g10 la_141 3 6 (by decide +kernel)).trans (by clear h; omega)) ?_
  refine Z_aload_n 1 dX0_take_44 rfl rfl ?_
  refine Z_get (T := TX2) (N := 6) (ci := 2) (t := 0) 5 dX0_take_45 la_11 (z_leN la_11 (by decide)) rfl (by decide) inX2 (by decide) (flX0_45 rfl) rfl ?_
  refine Z_invV (T := TX9) (N := 3) (ci := 9) (M' := mX9_addTimes) (ρ' := rX9_addTimes zN) (st := []) [(2, 147), (0, (σ9 11 5))] dX0_take_48 rfl rfl la_151 (z_leN la_151 (by decide)) (by decide) rfl rfl (kX9_addTimes.cl (Nat.le_of_ble_eq_true rfl) (Nat.le_refl _) (Nat.le_refl _) (Nat.le_of_ble_eq_true rfl) (Nat.le_of_ble_eq_true rfl) (Nat.le_of_ble_eq_true rfl)) (mlX0_51 rfl) iX9_addTimes sX9_addTimes h (z_kv (fun σ12 h => ?_))
  refine Z_aload_n 0 dX0_take_51 rfl rfl ?_
  refine Z_aload_n 1 dX0_take_52 rfl rfl ?_
  refine Z_aload_n 2 dX0_take_53 rfl rfl ?_
  refine Z_invV (T := TX0) (N := 7) (ci := 0) (M' := mX0_takeWeights) (ρ' := rX0_takeWeights zN) (st := []) [(2, 11), (2, 16)] dX0_take_54 rfl rfl la_141 (z_leN la_141 (by decide)) (by decide) rfl rfl (kX0_takeWeights.cl (Nat.le_of_ble_eq_true rfl) (Nat.le_refl _) (Nat.le_refl _) (Nat.le_of_ble_eq_true rfl) (Nat.le_of_ble_eq_true rfl) (Nat.le_of_ble_eq_true rfl)) (mlX0_55 rfl) iX0_takeWeights sX0_takeWeights h (z_kv (fun σ14 h => ?_))
  refine Z_aload_n 0 dX0_take_57 rfl rfl ?_
  obtain ⟨g15, h⟩ := h
  refine Z_get (T := TX0) (N := 7) (ci := 0) (t := 2) 1 dX0_take_58 la_141 (z_leN la_141 (by decide)) rfl (by decide) inX0 (by decide) (flX0_18 rfl) rfl ?_
  refine Z_top (y := 143) ((Fix.get g15 la_141 1 2 (by decide +kernel)).trans (by clear h; omega)) ?_
  refine Z_lconst (x := 0) dX0_take_61 rfl ?_
  refine Z_invV (T := TX9) (N := 3) (ci := 9) (M' := mX9_put) (ρ' := rX9_put zN) (st := []) [(1, 0)] dX0_take_62 rfl rfl la_143 (z_leN la_143 (by decide)) (by decide) rfl rfl (kX9_put.cl (Nat.le_of_ble_eq_true rfl) (Nat.le_refl _) (Nat.le_refl _) (Nat.le_of_ble_eq_true rfl) (Nat.le_of_ble_eq_true rfl) (Nat.le_of_ble_eq_true rfl)) (mlX0_38 rfl) iX9_put sX9_put h (z_kv (fun σ17 h => ?_))
  refine Z_aload_n 0 dX0_take_65 rfl rfl ?_
  obtain ⟨g18, h⟩ := h
  refine Z_get (T := TX0) (N := 7) (ci := 0) (t := 2) 2 dX0_take_66 la_141 (z_leN la_141 (by decide)) rfl (by decide) inX0 (by decide) (flX0_22 rfl) rfl ?_
  refine Z_top (y := 145) ((Fix.get g18 la_141 2 4 (by decide +kernel)).trans (by clear h; omega)) ?_
  refine Z_lconst (x := 0) dX0_take_69 rfl ?_
  refine Z_invV (T := TX9) (N := 3) (ci := 9) (M' := mX9_put) (ρ' := rX9_put zN) (st := []) [(1, 0)] dX0_take_70 rfl rfl la_145 (z_leN la_145 (by decide)) (by decide) rfl rfl (kX9_put.cl (Nat.le_of_ble_eq_true rfl) (Nat.le_refl _) (Nat.le_refl _) (Nat.le_of_ble_eq_true rfl) (Nat.le_of_ble_eq_true rfl) (Nat.le_of_ble_eq_true rfl)) (mlX0_38 rfl) iX9_put sX9_put h (z_kv (fun σ20 h => ?_))
  refine Z_aload_n 0 dX0_take_73 rfl rfl ?_
  obtain ⟨g21, h⟩ := h
  refine Z_get (T := TX0) (N := 7) (ci := 0) (t := 2) 2 dX0_take_74 la_141 (z_leN la_141 (by decide)) rfl (by decide) inX0 (by decide) (flX0_22 rfl) rfl ?_
  refine Z_top (y := 145) ((Fix.get g21 la_141 2 4 (by decide +kernel)).trans (by clear h; omega)) ?_
  refine Z_aload_n 2 dX0_take_77 rfl rfl ?_
  refine Z_get (T := TX4) (N := 6) (ci := 4) (t := 2) 2 dX0_take_78 la_16 (z_leN la_16 (by decide)) rfl (by decide) inX4 (by decide) (flX0_42 rfl) rfl ?_
  refine Z_top (y := 20) ((Fix.get g21 la_16 2 4 (by decide +kernel)).trans (by clear h; omega)) ?_
  refine Z_aload_n 1 dX0_take_81 rfl rfl ?_
  refine Z_get (T := TX2) (N := 6) (ci := 2) (t := 2) 2 dX0_take_82 la_11 (z_leN la_11 (by decide)) rfl (by decide) inX2 (by decide) (flX0_59 rfl) rfl ?_
  refine Z_top (y := 14) ((Fix.get g21 la_11 2 3 (by decide +kernel)).trans (by clear h; omega)) ?_
  refine Z_iconst dX0_take_85 ?_
  refine Z_iald dX0_take_86 la_14 (z_leN la_14 (by decide)) (by decide) (by decide) ?_
  refine Z_invV (T := TX9) (N := 3) (ci := 9) (M' := mX9_addTimes) (ρ' := rX9_addTimes zN) (st := []) [(2, 20), (0, (σ20 14 0))] dX0_take_87 rfl rfl la_145 (z_leN la_145 (by decide)) (by decide) rfl rfl (kX9_addTimes.cl (Nat.le_of_ble_eq_true rfl) (Nat.le_refl _) (Nat.le_refl _) (Nat.le_of_ble_eq_true rfl) (Nat.le_of_ble_eq_true rfl) (Nat.le_of_ble_eq_true rfl)) (mlX0_51 rfl) iX9_addTimes sX9_addTimes h (z_kv (fun σ23 h => ?_))
  refine Z_aload_n 0 dX0_take_90 rfl rfl ?_
  obtain ⟨g24, h⟩ := h
  refine Z_get (T := TX0) (N := 7) (ci := 0) (t := 2) 4 dX0_take_91 la_141 (z_leN la_141 (by decide)) rfl (by decide) inX0 (by decide) (flX0_28 rfl) rfl ?_
  refine Z_top (y := 149) ((Fix.get g24 la_141 4 8 (by decide +kernel)).trans (by clear h; omega)) ?_
  refine Z_lconst (x := 0) dX0_take_94 rfl ?_
  refine Z_invV (T := TX9) (N := 3) (ci := 9) (M' := mX9_put) (ρ' := rX9_put zN) (st := []) [(1, 0)] dX0_take_95 rfl rfl la_149 (z_leN la_149 (by decide)) (by decide) rfl rfl (kX9_put.cl (Nat.le_of_ble_eq_true rfl) (Nat.le_refl _) (Nat.le_refl _) (Nat.le_of_ble_eq_true rfl) (Nat.le_of_ble_eq_true rfl) (Nat.le_of_ble_eq_true rfl)) (mlX0_38 rfl) iX9_put sX9_put h (z_kv (fun σ26 h => ?_))
  refine Z_aload_n 0 dX0_take_98 rfl rfl ?_
  obtain ⟨g27, h⟩ := h
  refine Z_get (T := TX0) (N := 7) (ci := 0) (t := 2) 4 dX0_take_99 la_141 (z_leN la_141 (by decide)) rfl (by decide) inX0 (by decide) (flX0_28 rfl) rfl ?_
  refine Z_top (y := 149) ((Fix.get g27 la_141 4 8 (by decide +kernel)).trans (by clear h; omega)) ?_
  refine Z_aload_n 2 dX0_take_102 rfl rfl ?_
  refine Z_get (T := TX4) (N := 6) (ci := 4) (t := 2) 2 dX0_take_103 la_16 (z_leN la_16 (by decide)) rfl (by decide) inX4 (by decide) (flX0_42 rfl) rfl ?_
  refine Z_top (y := 20) ((Fix.get g27 la_16 2 4 (by decide +kernel)).trans (by clear h; omega)) ?_
  refine Z_iload dX0_take_106 rfl ?_
  refine Z_ineg dX0_take_108 ?_
  refine Z_invV (T := TX9) (N := 3) (ci := 9) (M' := mX9_addTimes) (ρ' := rX9_addTimes zN) (st := []) [(2, 20), (0, (-x4))] dX0_take_109 rfl rfl la_149 (z_leN la_149 (by decide)) (by decide) rfl rfl (kX9_addTimes.cl (Nat.le_of_ble_eq_true rfl) (Nat.le_refl _) (Nat.le_refl _) (Nat.le_of_ble_eq_true rfl) (Nat.le_of_ble_eq_true rfl) (Nat.le_of_ble_eq_true rfl)) (mlX0_51 rfl) iX9_addTimes sX9_addTimes h (z_kv (fun σ29 h => ?_))
  refine Z_iconst dX0_take_112 ?_
  refine Z_istore (L' := [(2, 141), (2, 11), (2, 16), (2, p3), (0, x4), (0, 0), (9, 0)]) dX0_take_113 (Nat.le_of_ble_eq_true rfl) rfl ?_
  exact Z_few (z_few_k (z_few_k (z_few_d (z_few_k (z_few_d (z_few_k (z_few_k z_few_0))))))) h
theorem bk_X0_take_115 {X : ZS} {σ : ZM} {T : ZM → Prop} {p3 : Int} (hp3 : z_l p3 = (7, 3)) {x5 : Int} (h : (r32 x5) ∧ (r32 (σ 11 4)) ∧ (((σ 11 4) ≤ x5) → (Fix σ) ∧ ZC X (rX9_addTimes zN) mX9_addTimes [(2, 149), (2, 145), (0, (σ 11 5))] zN σ (zQv (fun σ5 => T σ5))) ∧ ((¬ ((σ 11 4) ≤ x5)) → (Fix σ) ∧ (0 ≤ x5) ∧ (x5 < 8) ∧ (0 ≤ (σ 12 x5)) ∧ ((σ 12 x5) < 8) ∧ ZC X (rX9_addTimes zN) mX9_addTimes [(2, 143), (2, (σ 142 (σ 12 x5))), (0, (σ (p3 + 4) (σ 12 x5)))] zN σ (zQv (fun σ12 => (Fix σ12) ∧ (0 ≤ (σ 12 x5)) ∧ ((σ 12 x5) < 8) ∧ (x5 < 64) ∧ ZC X (rX9_addTimes zN) mX9_addTimes [(2, 145), (2, (σ12 142 (σ 12 x5))), (0, (-(σ12 13 x5)))] zN σ12 (zQv (fun σ18 => (Fix σ18) ∧ (0 ≤ (σ 12 x5)) ∧ ((σ 12 x5) < 8) ∧ ZC X (rX9_addTimes zN) mX9_addTimes [(2, 149), (2, (σ18 142 (σ 12 x5))), (0, (σ18 14 x5))] zN σ18 (zQv (fun σ23 => Z X (rX0_take zN) mX0_take 115 [(2, 141), (2, 11), (9, 0), (2, p3), (9, 0), (0, (x5 + 1)), (9, 0)] [] zN σ23 (zQv T))))))))) : Z X (rX0_take zN) mX0_take 115 [(2, 141), (2, 11), (9, 0), (2, p3), (9, 0), (0, x5), (9, 0)] [] zN σ (zQv T) := by
  refine Z_iload dX0_take_115 rfl ?_
  refine Z_aload_n 1 dX0_take_117 rfl rfl ?_
  refine Z_get (T := TX2) (N := 6) (ci := 2) (t := 0) 4 dX0_take_118 la_11 (z_leN la_11 (by decide)) rfl (by decide) inX2 (by decide) (flX0_63 rfl) rfl ?_
  obtain ⟨g1, h⟩ := h
  obtain ⟨g2, h⟩ := h
  refine Z_icmp_ge (tgt := 203) dX0_take_121 (by decide) g1 g2 (fun c => ?_) (fun c => ?_)
  · replace h := h.1 c
    refine Z_aload_n 0 dX0_take_203 rfl rfl ?_
    obtain ⟨g3, h⟩ := h
    refine Z_get (T := TX0) (N := 7) (ci := 0) (t := 2) 4 dX0_take_204 la_141 (z_leN la_141 (by decide)) rfl (by decide) inX0 (by decide) (flX0_28 rfl) rfl ?_
    refine Z_top (y := 149) ((Fix.get g3 la_141 4 8 (by decide +kernel)).trans (by clear h; omega)) ?_
    refine Z_aload_n 0 dX0_take_207 rfl rfl ?_
    refine Z_get (T := TX0) (N := 7) (ci := 0) (t := 2) 2 dX0_take_208 la_141 (z_leN la_141 (by decide)) rfl (by decide) inX0 (by decide) (flX0_22 rfl) rfl ?_
    refine Z_top (y := 145) ((Fix.get g3 la_141 2 4 (by decide +kernel)).trans (by clear h; omega)) ?_
    refine Z_aload_n 1 dX0_take_211 rfl rfl ?_
    refine Z_get (T := TX2) (N := 6) (ci := 2) (t := 0) 5 dX0_take_212 la_11 (z_leN la_11 (by decide)) rfl (by decide) inX2 (by decide) (flX0_45 rfl) rfl ?_
    refine Z_invV (T := TX9) (N := 3) (ci := 9) (M' := mX9_addTimes) (ρ' := rX9_addTimes zN) (st := []) [(2, 145), (0, (σ 11 5))] dX0_take_215 rfl rfl la_149 (z_leN la_149 (by decide)) (by decide) rfl rfl (kX9_addTimes.cl (Nat.le_of_ble_eq_true rfl) (Nat.le_refl _) (Nat.le_refl _) (Nat.le_of_ble_eq_true rfl) (Nat.le_of_ble_eq_true rfl) (Nat.le_of_ble_eq_true rfl)) (mlX0_51 rfl) iX9_addTimes sX9_addTimes h (z_kv (fun σ5 h => ?_))
    exact Z_return dX0_take_218 rfl rfl ⟨rfl, h⟩
  · replace h := h.2 c
    refine Z_aload_n 1 dX0_take_124 rfl rfl ?_
    obtain ⟨g6, h⟩ := h
    refine Z_get (T := TX2) (N := 6) (ci := 2) (t := 2) 0 dX0_take_125 la_11 (z_leN la_11 (by decide)) rfl (by decide) inX2 (by decide) (flX0_66 rfl) rfl ?_
    refine Z_top (y := 12) ((Fix.get g6 la_11 0 1 (by decide +kernel)).trans (by clear h; omega)) ?_
    refine Z_iload dX0_take_128 rfl ?_
    obtain ⟨g7, h⟩ := h
    obtain ⟨g8, h⟩ := h
    refine Z_iald dX0_take_130 la_12 (z_leN la_12 (by decide)) g7 g8 ?_
    refine Z_istore (L' := [(2, 141), (2, 11), (9, 0), (2, p3), (9, 0), (0, x5), (0, (σ 12 x5))]) dX0_take_131 (Nat.le_of_ble_eq_true rfl) rfl ?_
    refine Z_aload_n 0 dX0_take_133 rfl rfl ?_
    refine Z_get (T := TX0) (N := 7) (ci := 0) (t := 2) 1 dX0_take_134 la_141 (z_leN la_141 (by decide)) rfl (by decide) inX0 (by decide) (flX0_18 rfl) rfl ?_
    refine Z_top (y := 143) ((Fix.get g6 la_141 1 2 (by decide +kernel)).trans (by clear h; omega)) ?_
    refine Z_aload_n 0 dX0_take_137 rfl rfl ?_
    refine Z_get (T := TX0) (N := 7) (ci := 0) (t := 2) 0 dX0_take_138 la_141 (z_leN la_141 (by decide)) rfl (by decide) inX0 (by decide) (flX0_11 rfl) rfl ?_
    refine Z_top (y := 142) ((Fix.get g6 la_141 0 1 (by decide +kernel)).trans (by clear h; omega)) ?_
    refine Z_iload dX0_take_141 rfl ?_
    obtain ⟨g9, h⟩ := h
    obtain ⟨g10, h⟩ := h
    refine Z_aald dX0_take_143 la_142 (z_leN la_142 (by decide)) g9 g10 ?_
    refine Z_aload_n 3 dX0_take_144 rfl rfl ?_
    refine Z_get (T := TX7) (N := 3) (ci := 7) (t := 2) 1 dX0_take_145 hp3 (z_leN hp3 (by decide)) rfl (by decide) inX7 (by decide) (flX0_69 rfl) rfl ?_
    refine Z_top (y := (p3 + 4)) (Fix.get g6 hp3 1 4 (by decide +kernel)) ?_
    refine Z_iload dX0_take_148 rfl ?_
    refine Z_iald dX0_take_150 (zo_7_1 hp3) (z_leN (zo_7_1 hp3) (by decide)) g9 g10 ?_
    refine Z_invV (T := TX9) (N := 3) (ci := 9) (M' := mX9_addTimes) (ρ' := rX9_addTimes zN) (st := []) [(2, (σ 142 (σ 12 x5))), (0, (σ (p3 + 4) (σ 12 x5)))] dX0_take_151 rfl rfl la_143 (z_leN la_143 (by decide)) (by decide) rfl rfl (kX9_addTimes.cl (Nat.le_of_ble_eq_true rfl) (Nat.le_refl _) (Nat.le_refl _) (Nat.le_of_ble_eq_true rfl) (Nat.le_of_ble_eq_true rfl) (Nat.le_of_ble_eq_true rfl)) (mlX0_51 rfl) iX9_addTimes sX9_addTimes h (z_kv (fun σ12 h => ?_))
    refine Z_aload_n 0 dX0_take_154 rfl rfl ?_
    obtain ⟨g13, h⟩ := h
    refine Z_get (T := TX0) (N := 7) (ci := 0) (t := 2) 2 dX0_take_155 la_141 (z_leN la_141 (by decide)) rfl (by decide) inX0 (by decide) (flX0_22 rfl) rfl ?_
    refine Z_top (y := 145) ((Fix.get g13 la_141 2 4 (by decide +kernel)).trans (by clear h; omega)) ?_
    refine Z_aload_n 0 dX0_take_158 rfl rfl ?_
    refine Z_get (T := TX0) (N := 7) (ci := 0) (t := 2) 0 dX0_take_159 la_141 (z_leN la_141 (by decide)) rfl (by decide) inX0 (by decide) (flX0_11 rfl) rfl ?_
    refine Z_top (y := 142) ((Fix.get g13 la_141 0 1 (by decide +kernel)).trans (by clear h; omega)) ?_
    refine Z_iload dX0_take_162 rfl ?_
    obtain ⟨g14, h⟩ := h
    obtain ⟨g15, h⟩ := h
    refine Z_aald dX0_take_164 la_142 (z_leN la_142 (by decide)) g14 g15 ?_
    refine Z_aload_n 1 dX0_take_165 rfl rfl ?_
    refine Z_get (T := TX2) (N := 6) (ci := 2) (t := 2) 1 dX0_take_166 la_11 (z_leN la_11 (by decide)) rfl (by decide) inX2 (by decide) (flX0_74 rfl) rfl ?_
    refine Z_top (y := 13) ((Fix.get g13 la_11 1 2 (by decide +kernel)).trans (by clear h; omega)) ?_
    refine Z_iload dX0_take_169 rfl ?_
    obtain ⟨g16, h⟩ := h
    refine Z_iald dX0_take_171 la_13 (z_leN la_13 (by decide)) g7 g16 ?_
    refine Z_ineg dX0_take_172 ?_
    refine Z_invV (T := TX9) (N := 3) (ci := 9) (M' := mX9_addTimes) (ρ' := rX9_addTimes zN) (st := []) [(2, (σ12 142 (σ 12 x5))), (0, (-(σ12 13 x5)))] dX0_take_173 rfl rfl la_145 (z_leN la_145 (by decide)) (by decide) rfl rfl (kX9_addTimes.cl (Nat.le_of_ble_eq_true rfl) (Nat.le_refl _) (Nat.le_refl _) (Nat.le_of_ble_eq_true rfl) (Nat.le_of_ble_eq_true rfl) (Nat.le_of_ble_eq_true rfl)) (mlX0_51 rfl) iX9_addTimes sX9_addTimes h (z_kv (fun σ18 h => ?_))
    refine Z_aload_n 0 dX0_take_176 rfl rfl ?_
    obtain ⟨g19, h⟩ := h
    refine Z_get (T := TX0) (N := 7) (ci := 0) (t := 2) 4 dX0_take_177 la_141 (z_leN la_141 (by decide)) rfl (by decide) inX0 (by decide) (flX0_28 rfl) rfl ?_
    refine Z_top (y := 149) ((Fix.get g19 la_141 4 8 (by decide +kernel)).trans (by clear h; omega)) ?_
    refine Z_aload_n 0 dX0_take_180 rfl rfl ?_
    refine Z_get (T := TX0) (N := 7) (ci := 0) (t := 2) 0 dX0_take_181 la_141 (z_leN la_141 (by decide)) rfl (by decide) inX0 (by decide) (flX0_11 rfl) rfl ?_
    refine Z_top (y := 142) ((Fix.get g19 la_141 0 1 (by decide +kernel)).trans (by clear h; omega)) ?_
    refine Z_iload dX0_take_184 rfl ?_
    obtain ⟨g20, h⟩ := h
    obtain ⟨g21, h⟩ := h
    refine Z_aald dX0_take_186 la_142 (z_leN la_142 (by decide)) g20 g21 ?_
    refine Z_aload_n 1 dX0_take_187 rfl rfl ?_
    refine Z_get (T := TX2) (N := 6) (ci := 2) (t := 2) 2 dX0_take_188 la_11 (z_leN la_11 (by decide)) rfl (by decide) inX2 (by decide) (flX0_59 rfl) rfl ?_
    refine Z_top (y := 14) ((Fix.get g19 la_11 2 3 (by decide +kernel)).trans (by clear h; omega)) ?_
    refine Z_iload dX0_take_191 rfl ?_
    refine Z_iald dX0_take_193 la_14 (z_leN la_14 (by decide)) g7 g8 ?_
    refine Z_invV (T := TX9) (N := 3) (ci := 9) (M' := mX9_addTimes) (ρ' := rX9_addTimes zN) (st := []) [(2, (σ18 142 (σ 12 x5))), (0, (σ18 14 x5))] dX0_take_194 rfl rfl la_149 (z_leN la_149 (by decide)) (by decide) rfl rfl (kX9_addTimes.cl (Nat.le_of_ble_eq_true rfl) (Nat.le_refl _) (Nat.le_refl _) (Nat.le_of_ble_eq_true rfl) (Nat.le_of_ble_eq_true rfl) (Nat.le_of_ble_eq_true rfl)) (mlX0_51 rfl) iX9_addTimes sX9_addTimes h (z_kv (fun σ23 h => ?_))
    refine Z_iinc (L' := [(2, 141), (2, 11), (9, 0), (2, p3), (9, 0), (0, (x5 + 1)), (0, (σ 12 x5))]) dX0_take_197 rfl (Nat.le_of_ble_eq_true rfl) rfl ?_
    refine Z_goto (tgt := 115) dX0_take_200 (by decide) ?_
    exact Z_few (z_few_k (z_few_k (z_few_k (z_few_k (z_few_k (z_few_k (z_few_d z_few_0))))))) h
theorem bk_X0_takeWeights {X : ZS} {σ : ZM} {T : ZM → Prop}  (h : Z X (rX0_takeWeights zN) mX0_takeWeights 2 [(2, 141), (2, 11), (2, 16), (0, 0), (9, 0), (9, 0)] [] zN σ (zQv T)) : ZC X (rX0_takeWeights zN) mX0_takeWeights [(2, 141), (2, 11), (2, 16)] zN σ (zQv T) := by
  show Z X _ _ 0 [(2, 141), (2, 11), (2, 16), (9, 0), (9, 0), (9, 0)] [] _ σ _
  refine Z_iconst dX0_takeWeights_0 ?_
  refine Z_istore_n (L' := [(2, 141), (2, 11), (2, 16), (0, 0), (9, 0), (9, 0)]) 3 dX0_takeWeights_1 rfl (Nat.le_of_ble_eq_true rfl) rfl ?_
  exact Z_few (z_few_k (z_few_k (z_few_k (z_few_k (z_few_k (z_few_k z_few_0)))))) h
theorem bk_X0_takeWeights_2 {X : ZS} {σ : ZM} {T : ZM → Prop} {x3 : Int} (h : (r32 x3) ∧ ((8 ≤ x3) → (Fix σ) ∧ (0 ≤ (σ 12 0)) ∧ ((σ 12 0) < 8) ∧ (z_l (σ 142 (σ 12 0)) = (9, 3)) ∧ ZC X (rX9_copyFrom zN) mX9_copyFrom [(2, (σ 142 (σ 12 0))), (2, 147)] zN σ (zQv (fun σ7 => Z X (rX0_takeWeights zN) mX0_takeWeights 47 [(2, 141), (2, 11), (2, 16), (2, (σ 142 (σ 12 0))), (0, 1), (9, 0)] [] zN σ7 (zQv T)))) ∧ ((¬ (8 ≤ x3)) → (Fix σ) ∧ (0 ≤ x3) ∧ (x3 < 8) ∧ (z_l (σ 142 x3) = (9, 3)) ∧ ZC X (rX9_put zN) mX9_put [(2, (σ 142 x3)), (1, 0)] zN σ (zQv (fun σ13 => Z X (rX0_takeWeights zN) mX0_takeWeights 2 [(2, 141), (2, 11), (2, 16), (0, (x3 + 1)), (9, 0), (9, 0)] [] zN σ13 (zQv T))))) : Z X (rX0_takeWeights zN) mX0_takeWeights 2 [(2, 141), (2, 11), (2, 16), (0, x3), (9, 0), (9, 0)] [] zN σ (zQv T) := by
  refine Z_iload_n 3 dX0_takeWeights_2 rfl rfl ?_
  refine Z_bipush dX0_takeWeights_3 (by decide) ?_
  obtain ⟨g1, h⟩ := h
  refine Z_icmp_ge (tgt := 24) dX0_takeWeights_5 (by decide) g1 ⟨by decide, by decide⟩ (fun c => ?_) (fun c => ?_)
  · replace h := h.1 c
    refine Z_aload_n 0 dX0_takeWeights_24 rfl rfl ?_
    obtain ⟨g2, h⟩ := h
    refine Z_get (T := TX0) (N := 7) (ci := 0) (t := 2) 0 dX0_takeWeights_25 la_141 (z_leN la_141 (by decide)) rfl (by decide) inX0 (by decide) (flX0_11 rfl) rfl ?_
    refine Z_top (y := 142) ((Fix.get g2 la_141 0 1 (by decide +kernel)).trans (by clear h; omega)) ?_
    refine Z_aload_n 1 dX0_takeWeights_28 rfl rfl ?_
    refine Z_get (T := TX2) (N := 6) (ci := 2) (t := 2) 0 dX0_takeWeights_29 la_11 (z_leN la_11 (by decide)) rfl (by decide) inX2 (by decide) (flX0_66 rfl) rfl ?_
    refine Z_top (y := 12) ((Fix.get g2 la_11 0 1 (by decide +kernel)).trans (by clear h; omega)) ?_
    refine Z_iconst dX0_takeWeights_32 ?_
    refine Z_iald dX0_takeWeights_33 la_12 (z_leN la_12 (by decide)) (by decide) (by decide) ?_
    obtain ⟨g3, h⟩ := h
    obtain ⟨g4, h⟩ := h
    refine Z_aald dX0_takeWeights_34 la_142 (z_leN la_142 (by decide)) g3 g4 ?_
    refine Z_astore_n (L' := [(2, 141), (2, 11), (2, 16), (2, (σ 142 (σ 12 0))), (9, 0), (9, 0)]) 3 dX0_takeWeights_35 rfl (Nat.le_of_ble_eq_true rfl) rfl ?_
    refine Z_aload_n 3 dX0_takeWeights_36 rfl rfl ?_
    refine Z_aload_n 0 dX0_takeWeights_37 rfl rfl ?_
    refine Z_get (T := TX0) (N := 7) (ci := 0) (t := 2) 3 dX0_takeWeights_38 la_141 (z_leN la_141 (by decide)) rfl (by decide) inX0 (by decide) (flX0_25 rfl) rfl ?_
    refine Z_top (y := 147) ((Fix.get g2 la_141 3 6 (by decide +kernel)).trans (by clear h; omega)) ?_
    obtain ⟨g5, h⟩ := h
    refine Z_invV (T := TX9) (N := 3) (ci := 9) (M' := mX9_copyFrom) (ρ' := rX9_copyFrom zN) (st := []) [(2, 147)] dX0_takeWeights_41 rfl rfl g5 (z_leN g5 (by decide)) (by decide) rfl rfl (kX9_copyFrom.cl (Nat.le_of_ble_eq_true rfl) (Nat.le_refl _) (Nat.le_refl _) (Nat.le_of_ble_eq_true rfl) (Nat.le_of_ble_eq_true rfl) (Nat.le_of_ble_eq_true rfl)) (mlX0_77 rfl) iX9_copyFrom sX9_copyFrom h (z_kv (fun σ7 h => ?_))
    refine Z_iconst dX0_takeWeights_44 ?_
    refine Z_istore (L' := [(2, 141), (2, 11), (2, 16), (2, (σ 142 (σ 12 0))), (0, 1), (9, 0)]) dX0_takeWeights_45 (Nat.le_of_ble_eq_true rfl) rfl ?_
    exact Z_few (z_few_k (z_few_k (z_few_k (z_few_k (z_few_k (z_few_k z_few_0)))))) h
  · replace h := h.2 c
    refine Z_aload_n 0 dX0_takeWeights_8 rfl rfl ?_
    obtain ⟨g8, h⟩ := h
    refine Z_get (T := TX0) (N := 7) (ci := 0) (t := 2) 0 dX0_takeWeights_9 la_141 (z_leN la_141 (by decide)) rfl (by decide) inX0 (by decide) (flX0_11 rfl) rfl ?_
    refine Z_top (y := 142) ((Fix.get g8 la_141 0 1 (by decide +kernel)).trans (by clear h; omega)) ?_
    refine Z_iload_n 3 dX0_takeWeights_12 rfl rfl ?_
    obtain ⟨g9, h⟩ := h
    obtain ⟨g10, h⟩ := h
    refine Z_aald dX0_takeWeights_13 la_142 (z_leN la_142 (by decide)) g9 g10 ?_
    refine Z_lconst (x := 0) dX0_takeWeights_14 rfl ?_
    obtain ⟨g11, h⟩ := h
    refine Z_invV (T := TX9) (N := 3) (ci := 9) (M' := mX9_put) (ρ' := rX9_put zN) (st := []) [(1, 0)] dX0_takeWeights_15 rfl rfl g11 (z_leN g11 (by decide)) (by decide) rfl rfl (kX9_put.cl (Nat.le_of_ble_eq_true rfl) (Nat.le_refl _) (Nat.le_refl _) (Nat.le_of_ble_eq_true rfl) (Nat.le_of_ble_eq_true rfl) (Nat.le_of_ble_eq_true rfl)) (mlX0_38 rfl) iX9_put sX9_put h (z_kv (fun σ13 h => ?_))
    refine Z_iinc (L' := [(2, 141), (2, 11), (2, 16), (0, (x3 + 1)), (9, 0), (9, 0)]) dX0_takeWeights_18 rfl (Nat.le_of_ble_eq_true rfl) rfl ?_
    refine Z_goto (tgt := 2) dX0_takeWeights_21 (by decide) ?_
    exact Z_few (z_few_k (z_few_k (z_few_k (z_few_k (z_few_k (z_few_k z_few_0)))))) h
theorem bk_X0_takeWeights_47 {X : ZS} {σ : ZM} {T : ZM → Prop} {p3 : Int} (hp3 : z_l p3 = (9, 3)) {x4 : Int} (h : (r32 x4) ∧ (r32 (σ 11 4)) ∧ (((σ 11 4) ≤ x4) → T σ) ∧ ((¬ ((σ 11 4) ≤ x4)) → (Fix σ) ∧ (0 ≤ x4) ∧ (x4 < 8) ∧ (0 ≤ (σ 12 x4)) ∧ ((σ 12 x4) < 8) ∧ ZC X (rX4_cell zN) mX4_cell [(2, 16), (0, (x4 - 1)), (0, ((σ 11 4) - 1))] zN σ (zQa (fun r8 σ9 => (z_l (σ 142 (σ 12 x4)) = (9, 3)) ∧ ZC X (rX9_copyFrom zN) mX9_copyFrom [(2, (σ 142 (σ 12 x4))), (2, r8)] zN σ9 (zQv (fun σ12 => ZC X (rX9_addTimes zN) mX9_addTimes [(2, p3), (2, (σ 142 (σ 12 x4))), (0, (-1))] zN σ12 (zQv (fun σ14 => Z X (rX0_takeWeights zN) mX0_takeWeights 47 [(2, 141), (2, 11), (2, 16), (2, p3), (0, (x4 + 1)), (9, 0)] [] zN σ14 (zQv T))))))))) : Z X (rX0_takeWeights zN) mX0_takeWeights 47 [(2, 141), (2, 11), (2, 16), (2, p3), (0, x4), (9, 0)] [] zN σ (zQv T) := by
  refine Z_iload dX0_takeWeights_47 rfl ?_
  refine Z_aload_n 1 dX0_takeWeights_49 rfl rfl ?_
  refine Z_get (T := TX2) (N := 6) (ci := 2) (t := 0) 4 dX0_takeWeights_50 la_11 (z_leN la_11 (by decide)) rfl (by decide) inX2 (by decide) (flX0_63 rfl) rfl ?_
  obtain ⟨g1, h⟩ := h
  obtain ⟨g2, h⟩ := h
  refine Z_icmp_ge (tgt := 102) dX0_takeWeights_53 (by decide) g1 g2 (fun c => ?_) (fun c => ?_)
  · replace h := h.1 c
    exact Z_return dX0_takeWeights_102 rfl rfl ⟨rfl, h⟩
  · replace h := h.2 c
    refine Z_aload_n 0 dX0_takeWeights_56 rfl rfl ?_
    obtain ⟨g3, h⟩ := h
    refine Z_get (T := TX0) (N := 7) (ci := 0) (t := 2) 0 dX0_takeWeights_57 la_141 (z_leN la_141 (by decide)) rfl (by decide) inX0 (by decide) (flX0_11 rfl) rfl ?_
    refine Z_top (y := 142) ((Fix.get g3 la_141 0 1 (by decide +kernel)).trans (by clear h; omega)) ?_
    refine Z_aload_n 1 dX0_takeWeights_60 rfl rfl ?_
    refine Z_get (T := TX2) (N := 6) (ci := 2) (t := 2) 0 dX0_takeWeights_61 la_11 (z_leN la_11 (by decide)) rfl (by decide) inX2 (by decide) (flX0_66 rfl) rfl ?_
    refine Z_top (y := 12) ((Fix.get g3 la_11 0 1 (by decide +kernel)).trans (by clear h; omega)) ?_
    refine Z_iload dX0_takeWeights_64 rfl ?_
    obtain ⟨g4, h⟩ := h
    obtain ⟨g5, h⟩ := h
    refine Z_iald dX0_takeWeights_66 la_12 (z_leN la_12 (by decide)) g4 g5 ?_
    obtain ⟨g6, h⟩ := h
    obtain ⟨g7, h⟩ := h
    refine Z_aald dX0_takeWeights_67 la_142 (z_leN la_142 (by decide)) g6 g7 ?_
    refine Z_astore (L' := [(2, 141), (2, 11), (2, 16), (2, p3), (0, x4), (2, (σ 142 (σ 12 x4)))]) dX0_takeWeights_68 (Nat.le_of_ble_eq_true rfl) rfl ?_
    refine Z_aload dX0_takeWeights_70 rfl ?_
    refine Z_aload_n 2 dX0_takeWeights_72 rfl rfl ?_
    refine Z_iload dX0_takeWeights_73 rfl ?_
    refine Z_iconst dX0_takeWeights_75 ?_
    refine Z_isub dX0_takeWeights_76 ?_
    refine Z_aload_n 1 dX0_takeWeights_77 rfl rfl ?_
    refine Z_get (T := TX2) (N := 6) (ci := 2) (t := 0) 4 dX0_takeWeights_78 la_11 (z_leN la_11 (by decide)) rfl (by decide) inX2 (by decide) (flX0_63 rfl) rfl ?_
    refine Z_iconst dX0_takeWeights_81 ?_
    refine Z_isub dX0_takeWeights_82 ?_
    refine Z_invV (T := TX4) (N := 6) (ci := 4) (M' := mX4_cell) (ρ' := rX4_cell zN) (st := [(2, (σ 142 (σ 12 x4)))]) [(0, (x4 - 1)), (0, ((σ 11 4) - 1))] dX0_takeWeights_83 rfl rfl la_16 (z_leN la_16 (by decide)) (by decide) rfl rfl (kX4_cell.cl (Nat.le_of_ble_eq_true rfl) (Nat.le_refl _) (Nat.le_refl _) (Nat.le_of_ble_eq_true rfl) (Nat.le_of_ble_eq_true rfl) (Nat.le_of_ble_eq_true rfl)) (mlX0_81 rfl) iX4_cell sX4_cell h (z_ka (fun r8 σ9 h => ?_))
    obtain ⟨g10, h⟩ := h
    refine Z_invV (T := TX9) (N := 3) (ci := 9) (M' := mX9_copyFrom) (ρ' := rX9_copyFrom zN) (st := []) [(2, r8)] dX0_takeWeights_86 rfl rfl g10 (z_leN g10 (by decide)) (by decide) rfl rfl (kX9_copyFrom.cl (Nat.le_of_ble_eq_true rfl) (Nat.le_refl _) (Nat.le_refl _) (Nat.le_of_ble_eq_true rfl) (Nat.le_of_ble_eq_true rfl) (Nat.le_of_ble_eq_true rfl)) (mlX0_77 rfl) iX9_copyFrom sX9_copyFrom h (z_kv (fun σ12 h => ?_))
    refine Z_aload_n 3 dX0_takeWeights_89 rfl rfl ?_
    refine Z_aload dX0_takeWeights_90 rfl ?_
    refine Z_iconst dX0_takeWeights_92 ?_
    refine Z_invV (T := TX9) (N := 3) (ci := 9) (M' := mX9_addTimes) (ρ' := rX9_addTimes zN) (st := []) [(2, (σ 142 (σ 12 x4))), (0, (-1))] dX0_takeWeights_93 rfl rfl hp3 (z_leN hp3 (by decide)) (by decide) rfl rfl (kX9_addTimes.cl (Nat.le_of_ble_eq_true rfl) (Nat.le_refl _) (Nat.le_refl _) (Nat.le_of_ble_eq_true rfl) (Nat.le_of_ble_eq_true rfl) (Nat.le_of_ble_eq_true rfl)) (mlX0_51 rfl) iX9_addTimes sX9_addTimes h (z_kv (fun σ14 h => ?_))
    refine Z_iinc (L' := [(2, 141), (2, 11), (2, 16), (2, p3), (0, (x4 + 1)), (2, (σ 142 (σ 12 x4)))]) dX0_takeWeights_96 rfl (Nat.le_of_ble_eq_true rfl) rfl ?_
    refine Z_goto (tgt := 47) dX0_takeWeights_99 (by decide) ?_
    exact Z_few (z_few_k (z_few_k (z_few_k (z_few_k (z_few_k (z_few_d z_few_0)))))) h
theorem bk_X2_init {X : ZS} {n : Nat} {n1 : Nat} {σ : ZM} {T : ZM → Prop} {p0 : Int} (hp0 : z_l p0 = (2, 6)) (h : (z_l ((n + 1 : Nat) : Int) = (20, 8)) ∧ (n + 1 ≤ n1) ∧ (p0.toNat ≤ (n + 1)) ∧ (z_l (((n + 1) + 1 : Nat) : Int) = (20, 64)) ∧ ((n + 1) + 1 ≤ n1) ∧ (p0.toNat ≤ ((n + 1) + 1)) ∧ (z_l ((((n + 1) + 1) + 1 : Nat) : Int) = (20, 8)) ∧ (((n + 1) + 1) + 1 ≤ n1) ∧ (p0.toNat ≤ (((n + 1) + 1) + 1)) ∧ (z_l (((((n + 1) + 1) + 1) + 1 : Nat) : Int) = (20, 8)) ∧ ((((n + 1) + 1) + 1) + 1 ≤ n1) ∧ (p0.toNat ≤ ((((n + 1) + 1) + 1) + 1)) ∧ (((((n + 1) + 1) + 1) + 1) = n1) ∧ T (z_up (z_new (z_up (z_new (z_up (z_new (z_up (z_new σ ((n + 1 : Nat) : Int)) p0 0 ((n + 1 : Nat) : Int)) (((n + 1) + 1 : Nat) : Int)) p0 1 (((n + 1) + 1 : Nat) : Int)) ((((n + 1) + 1) + 1 : Nat) : Int)) p0 2 ((((n + 1) + 1) + 1 : Nat) : Int)) (((((n + 1) + 1) + 1) + 1 : Nat) : Int)) p0 3 (((((n + 1) + 1) + 1) + 1 : Nat) : Int))) : ZC X (rX2_init n1) mX2_init [(2, p0)] n σ (zQv T) := by
  show Z X _ _ 0 [(2, p0)] [] _ σ _
  refine Z_aload_n 0 dX2_init_0 rfl rfl ?_
  refine Z_objInit dX2_init_1 ((z_l_pos (by rw [hp0]; decide)).1) mlX2_3 ob_i ob_c (Nat.le_of_ble_eq_true rfl) (Nat.le_of_ble_eq_true rfl) (Nat.le_of_ble_eq_true rfl) ?_
  refine Z_aload_n 0 dX2_init_4 rfl rfl ?_
  refine Z_bipush dX2_init_5 (by decide) ?_
  obtain ⟨g1, h⟩ := h
  obtain ⟨g2, h⟩ := h
  refine Z_newI dX2_init_7 ac_int g1 rfl g2 ?_
  obtain ⟨g3, h⟩ := h
  refine Z_put (T := TX2) (N := 6) (ci := 2) (t := 2) tyX2 0 dX2_init_9 hp0 g3 rfl (by decide) inX2 (by decide) (plX2_9 rfl rfl) rfl tyX2_ok nmX2 rfl (z_nf_a _ _) ?_
  refine Z_aload_n 0 dX2_init_12 rfl rfl ?_
  refine Z_bipush dX2_init_13 (by decide) ?_
  obtain ⟨g4, h⟩ := h
  obtain ⟨g5, h⟩ := h
  refine Z_newI dX2_init_15 ac_int g4 rfl g5 ?_
  obtain ⟨g6, h⟩ := h
  refine Z_put (T := TX2) (N := 6) (ci := 2) (t := 2) tyX2 1 dX2_init_17 hp0 g6 rfl (by decide) inX2 (by decide) (plX2_15 rfl rfl) rfl tyX2_ok nmX2 rfl (z_nf_a _ _) ?_
  refine Z_aload_n 0 dX2_init_20 rfl rfl ?_
  refine Z_bipush dX2_init_21 (by decide) ?_
  obtain ⟨g7, h⟩ := h
  obtain ⟨g8, h⟩ := h
  refine Z_newI dX2_init_23 ac_int g7 rfl g8 ?_
  obtain ⟨g9, h⟩ := h
  refine Z_put (T := TX2) (N := 6) (ci := 2) (t := 2) tyX2 2 dX2_init_25 hp0 g9 rfl (by decide) inX2 (by decide) (plX2_18 rfl rfl) rfl tyX2_ok nmX2 rfl (z_nf_a _ _) ?_
  refine Z_aload_n 0 dX2_init_28 rfl rfl ?_
  refine Z_bipush dX2_init_29 (by decide) ?_
  obtain ⟨g10, h⟩ := h
  obtain ⟨g11, h⟩ := h
  refine Z_newI dX2_init_31 ac_int g10 rfl g11 ?_
  obtain ⟨g12, h⟩ := h
  refine Z_put (T := TX2) (N := 6) (ci := 2) (t := 2) tyX2 3 dX2_init_33 hp0 g12 rfl (by decide) inX2 (by decide) (plX2_21 rfl rfl) rfl tyX2_ok nmX2 rfl (z_nf_a _ _) ?_
  obtain ⟨g13, h⟩ := h
  exact Z_return dX2_init_36 rfl g13 ⟨rfl, h⟩
theorem bk_X2_unknowns {X : ZS} {σ : ZM} {T : Int → ZM → Prop}  (h : (r32 ((σ 11 4) - 1)) ∧ T (max 0 ((σ 11 4) - 1)) σ) : ZC X (rX2_unknowns zN) mX2_unknowns [(2, 11)] zN σ (zQi T) := by
  show Z X _ _ 0 [(2, 11)] [] _ σ _
  refine Z_iconst dX2_unknowns_0 ?_
  refine Z_aload_n 0 dX2_unknowns_1 rfl rfl ?_
  refine Z_get (T := TX2) (N := 6) (ci := 2) (t := 0) 4 dX2_unknowns_2 la_11 (z_leN la_11 (by decide)) rfl (by decide) inX2 (by decide) (flX2_24 rfl) rfl ?_
  refine Z_iconst dX2_unknowns_5 ?_
  refine Z_isub dX2_unknowns_6 ?_
  obtain ⟨g1, h⟩ := h
  refine Z_jmax dX2_unknowns_7 (mlX2_28 rfl) ⟨by decide, by decide⟩ g1 (Nat.le_refl _) (Nat.le_of_ble_eq_true rfl) (Nat.le_of_ble_eq_true rfl) (Nat.le_of_ble_eq_true rfl) ?_
  exact Z_ireturn dX2_unknowns_10 rfl rfl ⟨rfl, h⟩
theorem bk_X2_chooseAllBut {X : ZS} {σ : ZM} {T : ZM → Prop} {x1 : Int} {x2 : Int} (h : Z X (rX2_chooseAllBut zN) mX2_chooseAllBut 7 [(2, 11), (0, x1), (0, x2), (0, 0)] [] zN (z_up σ 11 4 0) (zQv T)) : ZC X (rX2_chooseAllBut zN) mX2_chooseAllBut [(2, 11), (0, x1), (0, x2)] zN σ (zQv T) := by
  show Z X _ _ 0 [(2, 11), (0, x1), (0, x2), (9, 0)] [] _ σ _
  refine Z_aload_n 0 dX2_chooseAllBut_0 rfl rfl ?_
  refine Z_iconst dX2_chooseAllBut_1 ?_
  refine Z_put (T := TX2) (N := 6) (ci := 2) (t := 0) tyX2 4 dX2_chooseAllBut_2 la_11 (z_leN la_11 (by decide)) rfl (by decide) inX2 (by decide) (plX2_24 rfl) rfl tyX2_ok nmX2 rfl (z_nf_i _) ?_
  refine Z_iconst dX2_chooseAllBut_5 ?_
  refine Z_istore_n (L' := [(2, 11), (0, x1), (0, x2), (0, 0)]) 3 dX2_chooseAllBut_6 rfl (Nat.le_of_ble_eq_true rfl) rfl ?_
  exact Z_few (z_few_k (z_few_k (z_few_k (z_few_k z_few_0)))) h
theorem bk_X2_chooseAllBut_7 {X : ZS} {σ : ZM} {T : ZM → Prop} {x1 : Int} {x2 : Int} {x3 : Int} (h : (r32 x3) ∧ (r32 x2) ∧ ((x2 ≤ x3) → T σ) ∧ ((¬ (x2 ≤ x3)) → ((8 ≤ x3) → T σ) ∧ ((¬ (8 ≤ x3)) → (r32 x1) ∧ ((x3 = x1) → Z X (rX2_chooseAllBut zN) mX2_chooseAllBut 7 [(2, 11), (0, x1), (0, x2), (0, (x3 + 1))] [] zN σ (zQv T)) ∧ ((¬ x3 = x1) → (Fix σ) ∧ (0 ≤ (σ 11 4)) ∧ ((σ 11 4) < 8) ∧ Z X (rX2_chooseAllBut zN) mX2_chooseAllBut 7 [(2, 11), (0, x1), (0, x2), (0, (x3 + 1))] [] zN (z_up (z_up σ 12 (σ 11 4) x3) 11 4 ((σ 11 4) + 1)) (zQv T))))) : Z X (rX2_chooseAllBut zN) mX2_chooseAllBut 7 [(2, 11), (0, x1), (0, x2), (0, x3)] [] zN σ (zQv T) := by
  refine Z_iload_n 3 dX2_chooseAllBut_7 rfl rfl ?_
  refine Z_iload_n 2 dX2_chooseAllBut_8 rfl rfl ?_
  obtain ⟨g1, h⟩ := h
  obtain ⟨g2, h⟩ := h
  refine Z_icmp_ge (tgt := 49) dX2_chooseAllBut_9 (by decide) g1 g2 (fun c => ?_) (fun c => ?_)
  · replace h := h.1 c
    exact Z_return dX2_chooseAllBut_49 rfl rfl ⟨rfl, h⟩
  · replace h := h.2 c
    refine Z_iload_n 3 dX2_chooseAllBut_12 rfl rfl ?_
    refine Z_bipush dX2_chooseAllBut_13 (by decide) ?_
    refine Z_icmp_ge (tgt := 49) dX2_chooseAllBut_15 (by decide) g1 ⟨by decide, by decide⟩ (fun c => ?_) (fun c => ?_)
    · replace h := h.1 c
      exact Z_return dX2_chooseAllBut_49 rfl rfl ⟨rfl, h⟩
    · replace h := h.2 c
      refine Z_iload_n 3 dX2_chooseAllBut_18 rfl rfl ?_
      refine Z_iload_n 1 dX2_chooseAllBut_19 rfl rfl ?_
      obtain ⟨g3, h⟩ := h
      refine Z_icmp_eq (tgt := 43) dX2_chooseAllBut_20 (by decide) g1 g3 (fun c => ?_) (fun c => ?_)
      · replace h := h.1 c
        refine Z_iinc (L' := [(2, 11), (0, x1), (0, x2), (0, (x3 + 1))]) dX2_chooseAllBut_43 rfl (Nat.le_of_ble_eq_true rfl) rfl ?_
        refine Z_goto (tgt := 7) dX2_chooseAllBut_46 (by decide) ?_
        exact Z_few (z_few_k (z_few_k (z_few_k (z_few_k z_few_0)))) h
      · replace h := h.2 c
        refine Z_aload_n 0 dX2_chooseAllBut_23 rfl rfl ?_
        obtain ⟨g4, h⟩ := h
        refine Z_get (T := TX2) (N := 6) (ci := 2) (t := 2) 0 dX2_chooseAllBut_24 la_11 (z_leN la_11 (by decide)) rfl (by decide) inX2 (by decide) (flX2_9 rfl) rfl ?_
        refine Z_top (y := 12) ((Fix.get g4 la_11 0 1 (by decide +kernel)).trans (by clear h; omega)) ?_
        refine Z_aload_n 0 dX2_chooseAllBut_27 rfl rfl ?_
        refine Z_get (T := TX2) (N := 6) (ci := 2) (t := 0) 4 dX2_chooseAllBut_28 la_11 (z_leN la_11 (by decide)) rfl (by decide) inX2 (by decide) (flX2_24 rfl) rfl ?_
        refine Z_iload_n 3 dX2_chooseAllBut_31 rfl rfl ?_
        obtain ⟨g5, h⟩ := h
        obtain ⟨g6, h⟩ := h
        refine Z_iast dX2_chooseAllBut_32 la_12 (z_leN la_12 (by decide)) g5 g6 ?_
        refine Z_aload_n 0 dX2_chooseAllBut_33 rfl rfl ?_
        refine Z_dup dX2_chooseAllBut_34 (by simp) ?_
        refine Z_get (T := TX2) (N := 6) (ci := 2) (t := 0) 4 dX2_chooseAllBut_35 la_11 (z_leN la_11 (by decide)) rfl (by decide) inX2 (by decide) (flX2_24 rfl) rfl ?_
        refine Z_top (z_up_ne _ (Or.inl (by decide))) ?_
        refine Z_iconst dX2_chooseAllBut_38 ?_
        refine Z_iadd dX2_chooseAllBut_39 ?_
        refine Z_put (T := TX2) (N := 6) (ci := 2) (t := 0) tyX2 4 dX2_chooseAllBut_40 la_11 (z_leN la_11 (by decide)) rfl (by decide) inX2 (by decide) (plX2_24 rfl) rfl tyX2_ok nmX2 rfl (z_nf_i _) ?_
        refine Z_iinc (L' := [(2, 11), (0, x1), (0, x2), (0, (x3 + 1))]) dX2_chooseAllBut_43 rfl (Nat.le_of_ble_eq_true rfl) rfl ?_
        refine Z_goto (tgt := 7) dX2_chooseAllBut_46 (by decide) ?_
        exact Z_few (z_few_k (z_few_k (z_few_k (z_few_k z_few_0)))) h
theorem bk_X2_chooseNearest {X : ZS} {σ : ZM} {T : ZM → Prop} {p1 : Int} (hp1 : z_l p1 = (6, 3)) {p2 : Int} (hp2 : z_l p2 = (6, 3)) {x3 : Int} (h : Z X (rX2_chooseNearest zN) mX2_chooseNearest 3 [(2, 11), (2, p1), (2, p2), (0, x3), (0, 0), (9, 0)] [] zN σ (zQv T)) : ZC X (rX2_chooseNearest zN) mX2_chooseNearest [(2, 11), (2, p1), (2, p2), (0, x3)] zN σ (zQv T) := by
  show Z X _ _ 0 [(2, 11), (2, p1), (2, p2), (0, x3), (9, 0), (9, 0)] [] _ σ _
  refine Z_iconst dX2_chooseNearest_0 ?_
  refine Z_istore (L' := [(2, 11), (2, p1), (2, p2), (0, x3), (0, 0), (9, 0)]) dX2_chooseNearest_1 (Nat.le_of_ble_eq_true rfl) rfl ?_
  exact Z_few (z_few_k (z_few_k (z_few_k (z_few_k (z_few_k (z_few_k z_few_0)))))) h
theorem bk_X2_chooseNearest_3 {X : ZS} {σ : ZM} {T : ZM → Prop} {p1 : Int} (hp1 : z_l p1 = (6, 3)) {p2 : Int} (hp2 : z_l p2 = (6, 3)) {x3 : Int} {x4 : Int} (h : (r32 x4) ∧ (r32 (σ p1 2)) ∧ (((σ p1 2) ≤ x4) → Z X (rX2_chooseNearest zN) mX2_chooseNearest 89 [(2, 11), (2, p1), (9, 0), (0, x3), (0, 0), (9, 0)] [] zN (z_up σ 11 4 0) (zQv T)) ∧ ((¬ ((σ p1 2) ≤ x4)) → ((8 ≤ x4) → Z X (rX2_chooseNearest zN) mX2_chooseNearest 89 [(2, 11), (2, p1), (9, 0), (0, x3), (0, 0), (9, 0)] [] zN (z_up σ 11 4 0) (zQv T)) ∧ ((¬ (8 ≤ x4)) → (Fix σ) ∧ (0 ≤ x4) ∧ (x4 < 8) ∧ Z X (rX2_chooseNearest zN) mX2_chooseNearest 30 [(2, 11), (2, p1), (2, p2), (0, x3), (0, x4), (0, 0)] [] zN (z_up σ 15 x4 0) (zQv T)))) : Z X (rX2_chooseNearest zN) mX2_chooseNearest 3 [(2, 11), (2, p1), (2, p2), (0, x3), (0, x4), (9, 0)] [] zN σ (zQv T) := by
  refine Z_iload dX2_chooseNearest_3 rfl ?_
  refine Z_aload_n 1 dX2_chooseNearest_5 rfl rfl ?_
  refine Z_get (T := TX6) (N := 3) (ci := 6) (t := 0) 2 dX2_chooseNearest_6 hp1 (z_leN hp1 (by decide)) rfl (by decide) inX6 (by decide) (flX2_34 rfl) rfl ?_
  obtain ⟨g1, h⟩ := h
  obtain ⟨g2, h⟩ := h
  refine Z_icmp_ge (tgt := 81) dX2_chooseNearest_9 (by decide) g1 g2 (fun c => ?_) (fun c => ?_)
  · replace h := h.1 c
    refine Z_aload_n 0 dX2_chooseNearest_81 rfl rfl ?_
    refine Z_iconst dX2_chooseNearest_82 ?_
    refine Z_put (T := TX2) (N := 6) (ci := 2) (t := 0) tyX2 4 dX2_chooseNearest_83 la_11 (z_leN la_11 (by decide)) rfl (by decide) inX2 (by decide) (plX2_24 rfl) rfl tyX2_ok nmX2 rfl (z_nf_i _) ?_
    refine Z_iconst dX2_chooseNearest_86 ?_
    refine Z_istore (L' := [(2, 11), (2, p1), (2, p2), (0, x3), (0, 0), (9, 0)]) dX2_chooseNearest_87 (Nat.le_of_ble_eq_true rfl) rfl ?_
    exact Z_few (z_few_k (z_few_k (z_few_d (z_few_k (z_few_k (z_few_k z_few_0)))))) h
  · replace h := h.2 c
    refine Z_iload dX2_chooseNearest_12 rfl ?_
    refine Z_bipush dX2_chooseNearest_14 (by decide) ?_
    refine Z_icmp_ge (tgt := 81) dX2_chooseNearest_16 (by decide) g1 ⟨by decide, by decide⟩ (fun c => ?_) (fun c => ?_)
    · replace h := h.1 c
      refine Z_aload_n 0 dX2_chooseNearest_81 rfl rfl ?_
      refine Z_iconst dX2_chooseNearest_82 ?_
      refine Z_put (T := TX2) (N := 6) (ci := 2) (t := 0) tyX2 4 dX2_chooseNearest_83 la_11 (z_leN la_11 (by decide)) rfl (by decide) inX2 (by decide) (plX2_24 rfl) rfl tyX2_ok nmX2 rfl (z_nf_i _) ?_
      refine Z_iconst dX2_chooseNearest_86 ?_
      refine Z_istore (L' := [(2, 11), (2, p1), (2, p2), (0, x3), (0, 0), (9, 0)]) dX2_chooseNearest_87 (Nat.le_of_ble_eq_true rfl) rfl ?_
      exact Z_few (z_few_k (z_few_k (z_few_d (z_few_k (z_few_k (z_few_k z_few_0)))))) h
    · replace h := h.2 c
      refine Z_aload_n 0 dX2_chooseNearest_19 rfl rfl ?_
      obtain ⟨g3, h⟩ := h
      refine Z_get (T := TX2) (N := 6) (ci := 2) (t := 2) 3 dX2_chooseNearest_20 la_11 (z_leN la_11 (by decide)) rfl (by decide) inX2 (by decide) (flX2_21 rfl) rfl ?_
      refine Z_top (y := 15) ((Fix.get g3 la_11 3 4 (by decide +kernel)).trans (by clear h; omega)) ?_
      refine Z_iload dX2_chooseNearest_23 rfl ?_
      refine Z_iconst dX2_chooseNearest_25 ?_
      obtain ⟨g4, h⟩ := h
      obtain ⟨g5, h⟩ := h
      refine Z_iast dX2_chooseNearest_26 la_15 (z_leN la_15 (by decide)) g4 g5 ?_
      refine Z_iconst dX2_chooseNearest_27 ?_
      refine Z_istore (L' := [(2, 11), (2, p1), (2, p2), (0, x3), (0, x4), (0, 0)]) dX2_chooseNearest_28 (Nat.le_of_ble_eq_true rfl) rfl ?_
      exact Z_few (z_few_k (z_few_k (z_few_k (z_few_k (z_few_k (z_few_k z_few_0)))))) h
theorem bk_X2_chooseNearest_30 {X : ZS} {σ : ZM} {T : ZM → Prop} {p1 : Int} (hp1 : z_l p1 = (6, 3)) {p2 : Int} (hp2 : z_l p2 = (6, 3)) {x3 : Int} {x4 : Int} {x5 : Int} (h : (r32 x5) ∧ (r32 (σ p2 2)) ∧ (((σ p2 2) ≤ x5) → Z X (rX2_chooseNearest zN) mX2_chooseNearest 3 [(2, 11), (2, p1), (2, p2), (0, x3), (0, (x4 + 1)), (9, 0)] [] zN σ (zQv T)) ∧ ((¬ ((σ p2 2) ≤ x5)) → (Fix σ) ∧ (0 ≤ x4) ∧ (x4 < 8) ∧ (0 ≤ x5) ∧ (x5 < (((z_l (p2 + 1)).2 : Nat) : Int)) ∧ (x5 < (((z_l (p2 + 2)).2 : Nat) : Int)) ∧ ZC X (rX6_wayTo zN) mX6_wayTo [(2, p1), (0, x4), (0, (σ (p2 + 1) x5)), (0, (σ (p2 + 2) x5))] zN σ (zQi (fun r9 σ10 => Z X (rX2_chooseNearest zN) mX2_chooseNearest 30 [(2, 11), (2, p1), (2, p2), (0, x3), (0, x4), (0, (x5 + 1))] [] zN (z_up σ10 15 x4 ((σ 15 x4) + r9)) (zQv T))))) : Z X (rX2_chooseNearest zN) mX2_chooseNearest 30 [(2, 11), (2, p1), (2, p2), (0, x3), (0, x4), (0, x5)] [] zN σ (zQv T) := by
  refine Z_iload dX2_chooseNearest_30 rfl ?_
  refine Z_aload_n 2 dX2_chooseNearest_32 rfl rfl ?_
  refine Z_get (T := TX6) (N := 3) (ci := 6) (t := 0) 2 dX2_chooseNearest_33 hp2 (z_leN hp2 (by decide)) rfl (by decide) inX6 (by decide) (flX2_34 rfl) rfl ?_
  obtain ⟨g1, h⟩ := h
  obtain ⟨g2, h⟩ := h
  refine Z_icmp_ge (tgt := 75) dX2_chooseNearest_36 (by decide) g1 g2 (fun c => ?_) (fun c => ?_)
  · replace h := h.1 c
    refine Z_iinc (L' := [(2, 11), (2, p1), (2, p2), (0, x3), (0, (x4 + 1)), (0, x5)]) dX2_chooseNearest_75 rfl (Nat.le_of_ble_eq_true rfl) rfl ?_
    refine Z_goto (tgt := 3) dX2_chooseNearest_78 (by decide) ?_
    exact Z_few (z_few_k (z_few_k (z_few_k (z_few_k (z_few_k (z_few_d z_few_0)))))) h
  · replace h := h.2 c
    refine Z_aload_n 0 dX2_chooseNearest_39 rfl rfl ?_
    obtain ⟨g3, h⟩ := h
    refine Z_get (T := TX2) (N := 6) (ci := 2) (t := 2) 3 dX2_chooseNearest_40 la_11 (z_leN la_11 (by decide)) rfl (by decide) inX2 (by decide) (flX2_21 rfl) rfl ?_
    refine Z_top (y := 15) ((Fix.get g3 la_11 3 4 (by decide +kernel)).trans (by clear h; omega)) ?_
    refine Z_iload dX2_chooseNearest_43 rfl ?_
    refine Z_dup2 dX2_chooseNearest_45 (by simp) (by simp) ?_
    obtain ⟨g4, h⟩ := h
    obtain ⟨g5, h⟩ := h
    refine Z_iald dX2_chooseNearest_46 la_15 (z_leN la_15 (by decide)) g4 g5 ?_
    refine Z_aload_n 1 dX2_chooseNearest_47 rfl rfl ?_
    refine Z_iload dX2_chooseNearest_48 rfl ?_
    refine Z_aload_n 2 dX2_chooseNearest_50 rfl rfl ?_
    refine Z_get (T := TX6) (N := 3) (ci := 6) (t := 2) 0 dX2_chooseNearest_51 hp2 (z_leN hp2 (by decide)) rfl (by decide) inX6 (by decide) (flX2_37 rfl) rfl ?_
    refine Z_top (y := (p2 + 1)) (Fix.get g3 hp2 0 1 (by decide +kernel)) ?_
    refine Z_iload dX2_chooseNearest_54 rfl ?_
    obtain ⟨g6, h⟩ := h
    obtain ⟨g7, h⟩ := h
    refine Z_iald dX2_chooseNearest_56 (zo_6_0 hp2) (z_leN (zo_6_0 hp2) (by decide)) g6 g7 ?_
    refine Z_aload_n 2 dX2_chooseNearest_57 rfl rfl ?_
    refine Z_get (T := TX6) (N := 3) (ci := 6) (t := 2) 1 dX2_chooseNearest_58 hp2 (z_leN hp2 (by decide)) rfl (by decide) inX6 (by decide) (flX2_40 rfl) rfl ?_
    refine Z_top (y := (p2 + 2)) (Fix.get g3 hp2 1 2 (by decide +kernel)) ?_
    refine Z_iload dX2_chooseNearest_61 rfl ?_
    obtain ⟨g8, h⟩ := h
    refine Z_iald dX2_chooseNearest_63 (zo_6_1 hp2) (z_leN (zo_6_1 hp2) (by decide)) g6 g8 ?_
    refine Z_invV (T := TX6) (N := 3) (ci := 6) (M' := mX6_wayTo) (ρ' := rX6_wayTo zN) (st := [(0, (σ 15 x4)), (0, x4), (2, 15)]) [(0, x4), (0, (σ (p2 + 1) x5)), (0, (σ (p2 + 2) x5))] dX2_chooseNearest_64 rfl rfl hp1 (z_leN hp1 (by decide)) (by decide) rfl rfl (kX6_wayTo.cl (Nat.le_of_ble_eq_true rfl) (Nat.le_refl _) (Nat.le_refl _) (Nat.le_of_ble_eq_true rfl) (Nat.le_of_ble_eq_true rfl) (Nat.le_of_ble_eq_true rfl)) (mlX2_43 rfl) iX6_wayTo sX6_wayTo h (z_ki (fun r9 σ10 h => ?_))
    refine Z_iadd dX2_chooseNearest_67 ?_
    refine Z_iast dX2_chooseNearest_68 la_15 (z_leN la_15 (by decide)) g4 g5 ?_
    refine Z_iinc (L' := [(2, 11), (2, p1), (2, p2), (0, x3), (0, x4), (0, (x5 + 1))]) dX2_chooseNearest_69 rfl (Nat.le_of_ble_eq_true rfl) rfl ?_
    refine Z_goto (tgt := 30) dX2_chooseNearest_72 (by decide) ?_
    exact Z_few (z_few_k (z_few_k (z_few_k (z_few_k (z_few_k (z_few_k z_few_0)))))) h
theorem bk_X2_chooseNearest_89 {X : ZS} {σ : ZM} {T : ZM → Prop} {p1 : Int} (hp1 : z_l p1 = (6, 3)) {x3 : Int} {x4 : Int} (h : (r32 x4) ∧ (r32 (σ p1 2)) ∧ (((σ p1 2) ≤ x4) → T σ) ∧ ((¬ ((σ p1 2) ≤ x4)) → ((8 ≤ x4) → T σ) ∧ ((¬ (8 ≤ x4)) → ZC X (rX2_countNearer zN) mX2_countNearer [(2, 11), (0, x4), (0, (σ p1 2))] zN σ (zQi (fun r3 σ4 => (r32 r3) ∧ (r32 x3) ∧ ((x3 ≤ r3) → Z X (rX2_chooseNearest zN) mX2_chooseNearest 89 [(2, 11), (2, p1), (9, 0), (0, x3), (0, (x4 + 1)), (9, 0)] [] zN σ4 (zQv T)) ∧ ((¬ (x3 ≤ r3)) → (Fix σ4) ∧ (0 ≤ (σ4 11 4)) ∧ ((σ4 11 4) < 8) ∧ Z X (rX2_chooseNearest zN) mX2_chooseNearest 89 [(2, 11), (2, p1), (9, 0), (0, x3), (0, (x4 + 1)), (9, 0)] [] zN (z_up (z_up σ4 12 (σ4 11 4) x4) 11 4 ((σ4 11 4) + 1)) (zQv T))))))) : Z X (rX2_chooseNearest zN) mX2_chooseNearest 89 [(2, 11), (2, p1), (9, 0), (0, x3), (0, x4), (9, 0)] [] zN σ (zQv T) := by
  refine Z_iload dX2_chooseNearest_89 rfl ?_
  refine Z_aload_n 1 dX2_chooseNearest_91 rfl rfl ?_
  refine Z_get (T := TX6) (N := 3) (ci := 6) (t := 0) 2 dX2_chooseNearest_92 hp1 (z_leN hp1 (by decide)) rfl (by decide) inX6 (by decide) (flX2_34 rfl) rfl ?_
  obtain ⟨g1, h⟩ := h
  obtain ⟨g2, h⟩ := h
  refine Z_icmp_ge (tgt := 146) dX2_chooseNearest_95 (by decide) g1 g2 (fun c => ?_) (fun c => ?_)
  · replace h := h.1 c
    exact Z_return dX2_chooseNearest_146 rfl rfl ⟨rfl, h⟩
  · replace h := h.2 c
    refine Z_iload dX2_chooseNearest_98 rfl ?_
    refine Z_bipush dX2_chooseNearest_100 (by decide) ?_
    refine Z_icmp_ge (tgt := 146) dX2_chooseNearest_102 (by decide) g1 ⟨by decide, by decide⟩ (fun c => ?_) (fun c => ?_)
    · replace h := h.1 c
      exact Z_return dX2_chooseNearest_146 rfl rfl ⟨rfl, h⟩
    · replace h := h.2 c
      refine Z_aload_n 0 dX2_chooseNearest_105 rfl rfl ?_
      refine Z_iload dX2_chooseNearest_106 rfl ?_
      refine Z_aload_n 1 dX2_chooseNearest_108 rfl rfl ?_
      refine Z_get (T := TX6) (N := 3) (ci := 6) (t := 0) 2 dX2_chooseNearest_109 hp1 (z_leN hp1 (by decide)) rfl (by decide) inX6 (by decide) (flX2_34 rfl) rfl ?_
      refine Z_invV (T := TX2) (N := 6) (ci := 2) (M' := mX2_countNearer) (ρ' := rX2_countNearer zN) (st := []) [(0, x4), (0, (σ p1 2))] dX2_chooseNearest_112 rfl rfl la_11 (z_leN la_11 (by decide)) (by decide) rfl rfl (kX2_countNearer.cl (Nat.le_of_ble_eq_true rfl) (Nat.le_refl _) (Nat.le_refl _) (Nat.le_of_ble_eq_true rfl) (Nat.le_of_ble_eq_true rfl) (Nat.le_of_ble_eq_true rfl)) (mlX2_47 rfl) iX2_countNearer sX2_countNearer h (z_ki (fun r3 σ4 h => ?_))
      refine Z_iload_n 3 dX2_chooseNearest_115 rfl rfl ?_
      obtain ⟨g5, h⟩ := h
      obtain ⟨g6, h⟩ := h
      refine Z_icmp_ge (tgt := 140) dX2_chooseNearest_116 (by decide) g5 g6 (fun c => ?_) (fun c => ?_)
      · replace h := h.1 c
        refine Z_iinc (L' := [(2, 11), (2, p1), (9, 0), (0, x3), (0, (x4 + 1)), (9, 0)]) dX2_chooseNearest_140 rfl (Nat.le_of_ble_eq_true rfl) rfl ?_
        refine Z_goto (tgt := 89) dX2_chooseNearest_143 (by decide) ?_
        exact Z_few (z_few_k (z_few_k (z_few_k (z_few_k (z_few_k (z_few_k z_few_0)))))) h
      · replace h := h.2 c
        refine Z_aload_n 0 dX2_chooseNearest_119 rfl rfl ?_
        obtain ⟨g7, h⟩ := h
        refine Z_get (T := TX2) (N := 6) (ci := 2) (t := 2) 0 dX2_chooseNearest_120 la_11 (z_leN la_11 (by decide)) rfl (by decide) inX2 (by decide) (flX2_9 rfl) rfl ?_
        refine Z_top (y := 12) ((Fix.get g7 la_11 0 1 (by decide +kernel)).trans (by clear h; omega)) ?_
        refine Z_aload_n 0 dX2_chooseNearest_123 rfl rfl ?_
        refine Z_get (T := TX2) (N := 6) (ci := 2) (t := 0) 4 dX2_chooseNearest_124 la_11 (z_leN la_11 (by decide)) rfl (by decide) inX2 (by decide) (flX2_24 rfl) rfl ?_
        refine Z_iload dX2_chooseNearest_127 rfl ?_
        obtain ⟨g8, h⟩ := h
        obtain ⟨g9, h⟩ := h
        refine Z_iast dX2_chooseNearest_129 la_12 (z_leN la_12 (by decide)) g8 g9 ?_
        refine Z_aload_n 0 dX2_chooseNearest_130 rfl rfl ?_
        refine Z_dup dX2_chooseNearest_131 (by simp) ?_
        refine Z_get (T := TX2) (N := 6) (ci := 2) (t := 0) 4 dX2_chooseNearest_132 la_11 (z_leN la_11 (by decide)) rfl (by decide) inX2 (by decide) (flX2_24 rfl) rfl ?_
        refine Z_top (z_up_ne _ (Or.inl (by decide))) ?_
        refine Z_iconst dX2_chooseNearest_135 ?_
        refine Z_iadd dX2_chooseNearest_136 ?_
        refine Z_put (T := TX2) (N := 6) (ci := 2) (t := 0) tyX2 4 dX2_chooseNearest_137 la_11 (z_leN la_11 (by decide)) rfl (by decide) inX2 (by decide) (plX2_24 rfl) rfl tyX2_ok nmX2 rfl (z_nf_i _) ?_
        refine Z_iinc (L' := [(2, 11), (2, p1), (9, 0), (0, x3), (0, (x4 + 1)), (9, 0)]) dX2_chooseNearest_140 rfl (Nat.le_of_ble_eq_true rfl) rfl ?_
        refine Z_goto (tgt := 89) dX2_chooseNearest_143 (by decide) ?_
        exact Z_few (z_few_k (z_few_k (z_few_k (z_few_k (z_few_k (z_few_k z_few_0)))))) h
theorem bk_X2_countNearer {X : ZS} {σ : ZM} {T : Int → ZM → Prop} {x1 : Int} {x2 : Int} (h : Z X (rX2_countNearer zN) mX2_countNearer 5 [(2, 11), (0, x1), (0, x2), (0, 0), (0, 0)] [] zN σ (zQi T)) : ZC X (rX2_countNearer zN) mX2_countNearer [(2, 11), (0, x1), (0, x2)] zN σ (zQi T) := by
  show Z X _ _ 0 [(2, 11), (0, x1), (0, x2), (9, 0), (9, 0)] [] _ σ _
  refine Z_iconst dX2_countNearer_0 ?_
  refine Z_istore_n (L' := [(2, 11), (0, x1), (0, x2), (0, 0), (9, 0)]) 3 dX2_countNearer_1 rfl (Nat.le_of_ble_eq_true rfl) rfl ?_
  refine Z_iconst dX2_countNearer_2 ?_
  refine Z_istore (L' := [(2, 11), (0, x1), (0, x2), (0, 0), (0, 0)]) dX2_countNearer_3 (Nat.le_of_ble_eq_true rfl) rfl ?_
  exact Z_few (z_few_k (z_few_k (z_few_k (z_few_k (z_few_k z_few_0))))) h
theorem bk_X2_countNearer_5 {X : ZS} {σ : ZM} {T : Int → ZM → Prop} {x1 : Int} {x2 : Int} {x3 : Int} {x4 : Int} (h : (r32 x4) ∧ (r32 x2) ∧ ((x2 ≤ x4) → T x3 σ) ∧ ((¬ (x2 ≤ x4)) → ((8 ≤ x4) → T x3 σ) ∧ ((¬ (8 ≤ x4)) → (Fix σ) ∧ (0 ≤ x4) ∧ (x4 < 8) ∧ (0 ≤ x1) ∧ (x1 < 8) ∧ (r32 (σ 15 x4)) ∧ (r32 (σ 15 x1)) ∧ (((σ 15 x4) < (σ 15 x1)) → Z X (rX2_countNearer zN) mX2_countNearer 5 [(2, 11), (0, x1), (0, x2), (0, (x3 + 1)), (0, (x4 + 1))] [] zN σ (zQi T)) ∧ ((¬ ((σ 15 x4) < (σ 15 x1))) → ((¬ (σ 15 x4) = (σ 15 x1)) → Z X (rX2_countNearer zN) mX2_countNearer 5 [(2, 11), (0, x1), (0, x2), (0, x3), (0, (x4 + 1))] [] zN σ (zQi T)) ∧ (((σ 15 x4) = (σ 15 x1)) → (r32 x1) ∧ ((x1 ≤ x4) → Z X (rX2_countNearer zN) mX2_countNearer 5 [(2, 11), (0, x1), (0, x2), (0, x3), (0, (x4 + 1))] [] zN σ (zQi T)) ∧ ((¬ (x1 ≤ x4)) → Z X (rX2_countNearer zN) mX2_countNearer 5 [(2, 11), (0, x1), (0, x2), (0, (x3 + 1)), (0, (x4 + 1))] [] zN σ (zQi T))))))) : Z X (rX2_countNearer zN) mX2_countNearer 5 [(2, 11), (0, x1), (0, x2), (0, x3), (0, x4)] [] zN σ (zQi T) := by
  refine Z_iload dX2_countNearer_5 rfl ?_
  refine Z_iload_n 2 dX2_countNearer_7 rfl rfl ?_
  obtain ⟨g1, h⟩ := h
  obtain ⟨g2, h⟩ := h
  refine Z_icmp_ge (tgt := 65) dX2_countNearer_8 (by decide) g1 g2 (fun c => ?_) (fun c => ?_)
  · replace h := h.1 c
    refine Z_iload_n 3 dX2_countNearer_65 rfl rfl ?_
    exact Z_ireturn dX2_countNearer_66 rfl rfl ⟨rfl, h⟩
  · replace h := h.2 c
    refine Z_iload dX2_countNearer_11 rfl ?_
    refine Z_bipush dX2_countNearer_13 (by decide) ?_
    refine Z_icmp_ge (tgt := 65) dX2_countNearer_15 (by decide) g1 ⟨by decide, by decide⟩ (fun c => ?_) (fun c => ?_)
    · replace h := h.1 c
      refine Z_iload_n 3 dX2_countNearer_65 rfl rfl ?_
      exact Z_ireturn dX2_countNearer_66 rfl rfl ⟨rfl, h⟩
    · replace h := h.2 c
      refine Z_aload_n 0 dX2_countNearer_18 rfl rfl ?_
      obtain ⟨g3, h⟩ := h
      refine Z_get (T := TX2) (N := 6) (ci := 2) (t := 2) 3 dX2_countNearer_19 la_11 (z_leN la_11 (by decide)) rfl (by decide) inX2 (by decide) (flX2_21 rfl) rfl ?_
      refine Z_top (y := 15) ((Fix.get g3 la_11 3 4 (by decide +kernel)).trans (by clear h; omega)) ?_
      refine Z_iload dX2_countNearer_22 rfl ?_
      obtain ⟨g4, h⟩ := h
      obtain ⟨g5, h⟩ := h
      refine Z_iald dX2_countNearer_24 la_15 (z_leN la_15 (by decide)) g4 g5 ?_
      refine Z_aload_n 0 dX2_countNearer_25 rfl rfl ?_
      refine Z_get (T := TX2) (N := 6) (ci := 2) (t := 2) 3 dX2_countNearer_26 la_11 (z_leN la_11 (by decide)) rfl (by decide) inX2 (by decide) (flX2_21 rfl) rfl ?_
      refine Z_top (y := 15) ((Fix.get g3 la_11 3 4 (by decide +kernel)).trans (by clear h; omega)) ?_
      refine Z_iload_n 1 dX2_countNearer_29 rfl rfl ?_
      obtain ⟨g6, h⟩ := h
      obtain ⟨g7, h⟩ := h
      refine Z_iald dX2_countNearer_30 la_15 (z_leN la_15 (by decide)) g6 g7 ?_
      obtain ⟨g8, h⟩ := h
      obtain ⟨g9, h⟩ := h
      refine Z_icmp_lt (tgt := 56) dX2_countNearer_31 (by decide) g8 g9 (fun c => ?_) (fun c => ?_)
      · replace h := h.1 c
        refine Z_iinc (L' := [(2, 11), (0, x1), (0, x2), (0, (x3 + 1)), (0, x4)]) dX2_countNearer_56 rfl (Nat.le_of_ble_eq_true rfl) rfl ?_
        refine Z_iinc (L' := [(2, 11), (0, x1), (0, x2), (0, (x3 + 1)), (0, (x4 + 1))]) dX2_countNearer_59 rfl (Nat.le_of_ble_eq_true rfl) rfl ?_
        refine Z_goto (tgt := 5) dX2_countNearer_62 (by decide) ?_
        exact Z_few (z_few_k (z_few_k (z_few_k (z_few_k (z_few_k z_few_0))))) h
      · replace h := h.2 c
        refine Z_aload_n 0 dX2_countNearer_34 rfl rfl ?_
        refine Z_get (T := TX2) (N := 6) (ci := 2) (t := 2) 3 dX2_countNearer_35 la_11 (z_leN la_11 (by decide)) rfl (by decide) inX2 (by decide) (flX2_21 rfl) rfl ?_
        refine Z_top (y := 15) ((Fix.get g3 la_11 3 4 (by decide +kernel)).trans (by clear h; omega)) ?_
        refine Z_iload dX2_countNearer_38 rfl ?_
        refine Z_iald dX2_countNearer_40 la_15 (z_leN la_15 (by decide)) g4 g5 ?_
        refine Z_aload_n 0 dX2_countNearer_41 rfl rfl ?_
        refine Z_get (T := TX2) (N := 6) (ci := 2) (t := 2) 3 dX2_countNearer_42 la_11 (z_leN la_11 (by decide)) rfl (by decide) inX2 (by decide) (flX2_21 rfl) rfl ?_
        refine Z_top (y := 15) ((Fix.get g3 la_11 3 4 (by decide +kernel)).trans (by clear h; omega)) ?_
        refine Z_iload_n 1 dX2_countNearer_45 rfl rfl ?_
        refine Z_iald dX2_countNearer_46 la_15 (z_leN la_15 (by decide)) g6 g7 ?_
        refine Z_icmp_ne (tgt := 59) dX2_countNearer_47 (by decide) g8 g9 (fun c => ?_) (fun c => ?_)
        · replace h := h.1 c
          refine Z_iinc (L' := [(2, 11), (0, x1), (0, x2), (0, x3), (0, (x4 + 1))]) dX2_countNearer_59 rfl (Nat.le_of_ble_eq_true rfl) rfl ?_
          refine Z_goto (tgt := 5) dX2_countNearer_62 (by decide) ?_
          exact Z_few (z_few_k (z_few_k (z_few_k (z_few_k (z_few_k z_few_0))))) h
        · replace h := h.2 c
          refine Z_iload dX2_countNearer_50 rfl ?_
          refine Z_iload_n 1 dX2_countNearer_52 rfl rfl ?_
          obtain ⟨g10, h⟩ := h
          refine Z_icmp_ge (tgt := 59) dX2_countNearer_53 (by decide) g1 g10 (fun c => ?_) (fun c => ?_)
          · replace h := h.1 c
            refine Z_iinc (L' := [(2, 11), (0, x1), (0, x2), (0, x3), (0, (x4 + 1))]) dX2_countNearer_59 rfl (Nat.le_of_ble_eq_true rfl) rfl ?_
            refine Z_goto (tgt := 5) dX2_countNearer_62 (by decide) ?_
            exact Z_few (z_few_k (z_few_k (z_few_k (z_few_k (z_few_k z_few_0))))) h
          · replace h := h.2 c
            refine Z_iinc (L' := [(2, 11), (0, x1), (0, x2), (0, (x3 + 1)), (0, x4)]) dX2_countNearer_56 rfl (Nat.le_of_ble_eq_true rfl) rfl ?_
            refine Z_iinc (L' := [(2, 11), (0, x1), (0, x2), (0, (x3 + 1)), (0, (x4 + 1))]) dX2_countNearer_59 rfl (Nat.le_of_ble_eq_true rfl) rfl ?_
            refine Z_goto (tgt := 5) dX2_countNearer_62 (by decide) ?_
            exact Z_few (z_few_k (z_few_k (z_few_k (z_few_k (z_few_k z_few_0))))) h
theorem bk_X2_prepare {X : ZS} {σ : ZM} {T : ZM → Prop} {p1 : Int} (hp1 : z_l p1 = (7, 3)) {p2 : Int} (hp2 : z_l p2 = (6, 3)) {x4 : Int} (h : ZC X (rX2_measure zN) mX2_measure [(2, 11), (2, p1), (2, 6), (0, x4), (0, 1)] zN σ (zQv (fun σ2 => (Fix σ2) ∧ ZC X (rX2_reachOut zN) mX2_reachOut [(2, 11), (2, (p1 + 1)), (2, p2), (2, 6), (0, x4)] zN σ2 (zQv (fun σ5 => ZC X (rX2_fillSquare zN) mX2_fillSquare [(2, 11), (2, 16)] zN σ5 (zQv (fun σ7 => ZC X (rX2_fillRight zN) mX2_fillRight [(2, 11), (2, 16)] zN σ7 (zQv (fun σ9 => T σ9))))))))) : ZC X (rX2_prepare zN) mX2_prepare [(2, 11), (2, p1), (2, p2), (2, 6), (0, x4), (2, 16)] zN σ (zQv T) := by
  show Z X _ _ 0 [(2, 11), (2, p1), (2, p2), (2, 6), (0, x4), (2, 16)] [] _ σ _
  refine Z_aload_n 0 dX2_prepare_0 rfl rfl ?_
  refine Z_aload_n 1 dX2_prepare_1 rfl rfl ?_
  refine Z_aload_n 3 dX2_prepare_2 rfl rfl ?_
  refine Z_iload dX2_prepare_3 rfl ?_
  refine Z_iconst dX2_prepare_5 ?_
  refine Z_invV (T := TX2) (N := 6) (ci := 2) (M' := mX2_measure) (ρ' := rX2_measure zN) (st := []) [(2, p1), (2, 6), (0, x4), (0, 1)] dX2_prepare_6 rfl rfl la_11 (z_leN la_11 (by decide)) (by decide) rfl rfl (kX2_measure.cl (Nat.le_of_ble_eq_true rfl) (Nat.le_refl _) (Nat.le_refl _) (Nat.le_of_ble_eq_true rfl) (Nat.le_of_ble_eq_true rfl) (Nat.le_of_ble_eq_true rfl)) (mlX2_50 rfl) iX2_measure sX2_measure h (z_kv (fun σ2 h => ?_))
  refine Z_aload_n 0 dX2_prepare_9 rfl rfl ?_
  refine Z_aload_n 1 dX2_prepare_10 rfl rfl ?_
  obtain ⟨g3, h⟩ := h
  refine Z_get (T := TX7) (N := 3) (ci := 7) (t := 2) 0 dX2_prepare_11 hp1 (z_leN hp1 (by decide)) rfl (by decide) inX7 (by decide) (flX2_54 rfl) rfl ?_
  refine Z_top (y := (p1 + 1)) (Fix.get g3 hp1 0 1 (by decide +kernel)) ?_
  refine Z_aload_n 2 dX2_prepare_14 rfl rfl ?_
  refine Z_aload_n 3 dX2_prepare_15 rfl rfl ?_
  refine Z_iload dX2_prepare_16 rfl ?_
  refine Z_invV (T := TX2) (N := 6) (ci := 2) (M' := mX2_reachOut) (ρ' := rX2_reachOut zN) (st := []) [(2, (p1 + 1)), (2, p2), (2, 6), (0, x4)] dX2_prepare_18 rfl rfl la_11 (z_leN la_11 (by decide)) (by decide) rfl rfl (kX2_reachOut.cl (Nat.le_of_ble_eq_true rfl) (Nat.le_refl _) (Nat.le_refl _) (Nat.le_of_ble_eq_true rfl) (Nat.le_of_ble_eq_true rfl) (Nat.le_of_ble_eq_true rfl)) (mlX2_60 rfl) iX2_reachOut sX2_reachOut h (z_kv (fun σ5 h => ?_))
  refine Z_aload_n 0 dX2_prepare_21 rfl rfl ?_
  refine Z_aload dX2_prepare_22 rfl ?_
  refine Z_invV (T := TX2) (N := 6) (ci := 2) (M' := mX2_fillSquare) (ρ' := rX2_fillSquare zN) (st := []) [(2, 16)] dX2_prepare_24 rfl rfl la_11 (z_leN la_11 (by decide)) (by decide) rfl rfl (kX2_fillSquare.cl (Nat.le_of_ble_eq_true rfl) (Nat.le_refl _) (Nat.le_refl _) (Nat.le_of_ble_eq_true rfl) (Nat.le_of_ble_eq_true rfl) (Nat.le_of_ble_eq_true rfl)) (mlX2_64 rfl) iX2_fillSquare sX2_fillSquare h (z_kv (fun σ7 h => ?_))
  refine Z_aload_n 0 dX2_prepare_27 rfl rfl ?_
  refine Z_aload dX2_prepare_28 rfl ?_
  refine Z_invV (T := TX2) (N := 6) (ci := 2) (M' := mX2_fillRight) (ρ' := rX2_fillRight zN) (st := []) [(2, 16)] dX2_prepare_30 rfl rfl la_11 (z_leN la_11 (by decide)) (by decide) rfl rfl (kX2_fillRight.cl (Nat.le_of_ble_eq_true rfl) (Nat.le_refl _) (Nat.le_refl _) (Nat.le_of_ble_eq_true rfl) (Nat.le_of_ble_eq_true rfl) (Nat.le_of_ble_eq_true rfl)) (mlX2_68 rfl) iX2_fillRight sX2_fillRight h (z_kv (fun σ9 h => ?_))
  exact Z_return dX2_prepare_33 rfl rfl ⟨rfl, h⟩
theorem bk_X2_measure {X : ZS} {σ : ZM} {T : ZM → Prop} {p1 : Int} (hp1 : z_l p1 = (7, 3)) {x3 : Int} {x4 : Int} (h : Z X (rX2_measure zN) mX2_measure 3 [(2, 11), (2, p1), (2, 6), (0, x3), (0, x4), (0, 0), (9, 0), (9, 0)] [] zN σ (zQv T)) : ZC X (rX2_measure zN) mX2_measure [(2, 11), (2, p1), (2, 6), (0, x3), (0, x4)] zN σ (zQv T) := by
  show Z X _ _ 0 [(2, 11), (2, p1), (2, 6), (0, x3), (0, x4), (9, 0), (9, 0), (9, 0)] [] _ σ _
  refine Z_iconst dX2_measure_0 ?_
  refine Z_istore (L' := [(2, 11), (2, p1), (2, 6), (0, x3), (0, x4), (0, 0), (9, 0), (9, 0)]) dX2_measure_1 (Nat.le_of_ble_eq_true rfl) rfl ?_
  exact Z_few (z_few_k (z_few_k (z_few_k (z_few_k (z_few_k (z_few_k (z_few_k (z_few_k z_few_0)))))))) h
theorem bk_X2_measure_3 {X : ZS} {σ : ZM} {T : ZM → Prop} {p1 : Int} (hp1 : z_l p1 = (7, 3)) {x3 : Int} {x4 : Int} {x5 : Int} (h : (r32 x5) ∧ (r32 (σ 11 4)) ∧ (((σ 11 4) ≤ x5) → T σ) ∧ ((¬ ((σ 11 4) ≤ x5)) → Z X (rX2_measure zN) mX2_measure 15 [(2, 11), (2, p1), (2, 6), (0, x3), (0, x4), (0, x5), (0, 0), (9, 0)] [] zN σ (zQv T))) : Z X (rX2_measure zN) mX2_measure 3 [(2, 11), (2, p1), (2, 6), (0, x3), (0, x4), (0, x5), (9, 0), (9, 0)] [] zN σ (zQv T) := by
  refine Z_iload dX2_measure_3 rfl ?_
  refine Z_aload_n 0 dX2_measure_5 rfl rfl ?_
  refine Z_get (T := TX2) (N := 6) (ci := 2) (t := 0) 4 dX2_measure_6 la_11 (z_leN la_11 (by decide)) rfl (by decide) inX2 (by decide) (flX2_24 rfl) rfl ?_
  obtain ⟨g1, h⟩ := h
  obtain ⟨g2, h⟩ := h
  refine Z_icmp_ge (tgt := 110) dX2_measure_9 (by decide) g1 g2 (fun c => ?_) (fun c => ?_)
  · replace h := h.1 c
    exact Z_return dX2_measure_110 rfl rfl ⟨rfl, h⟩
  · replace h := h.2 c
    refine Z_iconst dX2_measure_12 ?_
    refine Z_istore (L' := [(2, 11), (2, p1), (2, 6), (0, x3), (0, x4), (0, x5), (0, 0), (9, 0)]) dX2_measure_13 (Nat.le_of_ble_eq_true rfl) rfl ?_
    exact Z_few (z_few_k (z_few_k (z_few_k (z_few_k (z_few_k (z_few_k (z_few_k (z_few_k z_few_0)))))))) h
theorem bk_X2_measure_15 {X : ZS} {σ : ZM} {T : ZM → Prop} {p1 : Int} (hp1 : z_l p1 = (7, 3)) {x3 : Int} {x4 : Int} {x5 : Int} {x6 : Int} (h : (r32 x6) ∧ (r32 (σ 11 4)) ∧ (((σ 11 4) ≤ x6) → (r32 x4) ∧ ((x4 = 0) → Z X (rX2_measure zN) mX2_measure 3 [(2, 11), (2, p1), (2, 6), (0, x3), (0, x4), (0, (x5 + 1)), (9, 0), (9, 0)] [] zN σ (zQv T)) ∧ ((¬ x4 = 0) → (Fix σ) ∧ (0 ≤ x5) ∧ (x5 < 8) ∧ (0 ≤ (σ 12 x5)) ∧ ((σ 12 x5) < 8) ∧ (0 ≤ ((x5 * 8) + x5)) ∧ (((x5 * 8) + x5) < 64) ∧ Z X (rX2_measure zN) mX2_measure 3 [(2, 11), (2, p1), (2, 6), (0, x3), (0, x4), (0, (x5 + 1)), (9, 0), (9, 0)] [] zN (z_up σ 13 ((x5 * 8) + x5) (-(σ (p1 + 5) (σ 12 x5)))) (zQv T))) ∧ ((¬ ((σ 11 4) ≤ x6)) → (Fix σ) ∧ (0 ≤ x5) ∧ (x5 < 8) ∧ (0 ≤ x6) ∧ (x6 < 8) ∧ ZC X (rX6_way zN) mX6_way [(2, (p1 + 1)), (0, (σ 12 x5)), (0, (σ 12 x6))] zN σ (zQi (fun r16 σ17 => (Fix σ17) ∧ ZC X (rX5_tell zN) mX5_tell [(2, 6), (0, x3), (0, r16)] zN σ17 (zQi (fun r19 σ20 => (0 ≤ ((x5 * 8) + x6)) ∧ (((x5 * 8) + x6) < 64) ∧ Z X (rX2_measure zN) mX2_measure 15 [(2, 11), (2, p1), (2, 6), (0, x3), (0, x4), (0, x5), (0, (x6 + 1)), (9, 0)] [] zN (z_up σ20 13 ((x5 * 8) + x6) r19) (zQv T))))))) : Z X (rX2_measure zN) mX2_measure 15 [(2, 11), (2, p1), (2, 6), (0, x3), (0, x4), (0, x5), (0, x6), (9, 0)] [] zN σ (zQv T) := by
  refine Z_iload dX2_measure_15 rfl ?_
  refine Z_aload_n 0 dX2_measure_17 rfl rfl ?_
  refine Z_get (T := TX2) (N := 6) (ci := 2) (t := 0) 4 dX2_measure_18 la_11 (z_leN la_11 (by decide)) rfl (by decide) inX2 (by decide) (flX2_24 rfl) rfl ?_
  obtain ⟨g1, h⟩ := h
  obtain ⟨g2, h⟩ := h
  refine Z_icmp_ge (tgt := 73) dX2_measure_21 (by decide) g1 g2 (fun c => ?_) (fun c => ?_)
  · replace h := h.1 c
    refine Z_iload dX2_measure_73 rfl ?_
    obtain ⟨g3, h⟩ := h
    refine Z_if_eq (tgt := 104) dX2_measure_75 (by decide) g3 (fun c => ?_) (fun c => ?_)
    · replace h := h.1 c
      refine Z_iinc (L' := [(2, 11), (2, p1), (2, 6), (0, x3), (0, x4), (0, (x5 + 1)), (0, x6), (9, 0)]) dX2_measure_104 rfl (Nat.le_of_ble_eq_true rfl) rfl ?_
      refine Z_goto (tgt := 3) dX2_measure_107 (by decide) ?_
      exact Z_few (z_few_k (z_few_k (z_few_k (z_few_k (z_few_k (z_few_k (z_few_d (z_few_k z_few_0)))))))) h
    · replace h := h.2 c
      refine Z_aload_n 0 dX2_measure_78 rfl rfl ?_
      obtain ⟨g4, h⟩ := h
      refine Z_get (T := TX2) (N := 6) (ci := 2) (t := 2) 1 dX2_measure_79 la_11 (z_leN la_11 (by decide)) rfl (by decide) inX2 (by decide) (flX2_15 rfl) rfl ?_
      refine Z_top (y := 13) ((Fix.get g4 la_11 1 2 (by decide +kernel)).trans (by clear h; omega)) ?_
      refine Z_iload dX2_measure_82 rfl ?_
      refine Z_bipush dX2_measure_84 (by decide) ?_
      refine Z_imul dX2_measure_86 ?_
      refine Z_iload dX2_measure_87 rfl ?_
      refine Z_iadd dX2_measure_89 ?_
      refine Z_aload_n 1 dX2_measure_90 rfl rfl ?_
      refine Z_get (T := TX7) (N := 3) (ci := 7) (t := 2) 2 dX2_measure_91 hp1 (z_leN hp1 (by decide)) rfl (by decide) inX7 (by decide) (flX2_79 rfl) rfl ?_
      refine Z_top (y := (p1 + 5)) (Fix.get g4 hp1 2 5 (by decide +kernel)) ?_
      refine Z_aload_n 0 dX2_measure_94 rfl rfl ?_
      refine Z_get (T := TX2) (N := 6) (ci := 2) (t := 2) 0 dX2_measure_95 la_11 (z_leN la_11 (by decide)) rfl (by decide) inX2 (by decide) (flX2_9 rfl) rfl ?_
      refine Z_top (y := 12) ((Fix.get g4 la_11 0 1 (by decide +kernel)).trans (by clear h; omega)) ?_
      refine Z_iload dX2_measure_98 rfl ?_
      obtain ⟨g5, h⟩ := h
      obtain ⟨g6, h⟩ := h
      refine Z_iald dX2_measure_100 la_12 (z_leN la_12 (by decide)) g5 g6 ?_
      obtain ⟨g7, h⟩ := h
      obtain ⟨g8, h⟩ := h
      refine Z_iald dX2_measure_101 (zo_7_2 hp1) (z_leN (zo_7_2 hp1) (by decide)) g7 g8 ?_
      refine Z_ineg dX2_measure_102 ?_
      obtain ⟨g9, h⟩ := h
      obtain ⟨g10, h⟩ := h
      refine Z_iast dX2_measure_103 la_13 (z_leN la_13 (by decide)) g9 g10 ?_
      refine Z_iinc (L' := [(2, 11), (2, p1), (2, 6), (0, x3), (0, x4), (0, (x5 + 1)), (0, x6), (9, 0)]) dX2_measure_104 rfl (Nat.le_of_ble_eq_true rfl) rfl ?_
      refine Z_goto (tgt := 3) dX2_measure_107 (by decide) ?_
      exact Z_few (z_few_k (z_few_k (z_few_k (z_few_k (z_few_k (z_few_k (z_few_d (z_few_k z_few_0)))))))) h
  · replace h := h.2 c
    refine Z_aload_n 1 dX2_measure_24 rfl rfl ?_
    obtain ⟨g11, h⟩ := h
    refine Z_get (T := TX7) (N := 3) (ci := 7) (t := 2) 0 dX2_measure_25 hp1 (z_leN hp1 (by decide)) rfl (by decide) inX7 (by decide) (flX2_54 rfl) rfl ?_
    refine Z_top (y := (p1 + 1)) (Fix.get g11 hp1 0 1 (by decide +kernel)) ?_
    refine Z_aload_n 0 dX2_measure_28 rfl rfl ?_
    refine Z_get (T := TX2) (N := 6) (ci := 2) (t := 2) 0 dX2_measure_29 la_11 (z_leN la_11 (by decide)) rfl (by decide) inX2 (by decide) (flX2_9 rfl) rfl ?_
    refine Z_top (y := 12) ((Fix.get g11 la_11 0 1 (by decide +kernel)).trans (by clear h; omega)) ?_
    refine Z_iload dX2_measure_32 rfl ?_
    obtain ⟨g12, h⟩ := h
    obtain ⟨g13, h⟩ := h
    refine Z_iald dX2_measure_34 la_12 (z_leN la_12 (by decide)) g12 g13 ?_
    refine Z_aload_n 0 dX2_measure_35 rfl rfl ?_
    refine Z_get (T := TX2) (N := 6) (ci := 2) (t := 2) 0 dX2_measure_36 la_11 (z_leN la_11 (by decide)) rfl (by decide) inX2 (by decide) (flX2_9 rfl) rfl ?_
    refine Z_top (y := 12) ((Fix.get g11 la_11 0 1 (by decide +kernel)).trans (by clear h; omega)) ?_
    refine Z_iload dX2_measure_39 rfl ?_
    obtain ⟨g14, h⟩ := h
    obtain ⟨g15, h⟩ := h
    refine Z_iald dX2_measure_41 la_12 (z_leN la_12 (by decide)) g14 g15 ?_
    refine Z_invV (T := TX6) (N := 3) (ci := 6) (M' := mX6_way) (ρ' := rX6_way zN) (st := []) [(0, (σ 12 x5)), (0, (σ 12 x6))] dX2_measure_42 rfl rfl (zo_7_0 hp1) (z_leN (zo_7_0 hp1) (by decide)) (by decide) rfl rfl (kX6_way.cl (Nat.le_of_ble_eq_true rfl) (Nat.le_refl _) (Nat.le_refl _) (Nat.le_of_ble_eq_true rfl) (Nat.le_of_ble_eq_true rfl) (Nat.le_of_ble_eq_true rfl)) (mlX2_71 rfl) iX6_way sX6_way h (z_ki (fun r16 σ17 h => ?_))
    refine Z_istore (L' := [(2, 11), (2, p1), (2, 6), (0, x3), (0, x4), (0, x5), (0, x6), (0, r16)]) dX2_measure_45 (Nat.le_of_ble_eq_true rfl) rfl ?_
    refine Z_aload_n 0 dX2_measure_47 rfl rfl ?_
    obtain ⟨g18, h⟩ := h
    refine Z_get (T := TX2) (N := 6) (ci := 2) (t := 2) 1 dX2_measure_48 la_11 (z_leN la_11 (by decide)) rfl (by decide) inX2 (by decide) (flX2_15 rfl) rfl ?_
    refine Z_top (y := 13) ((Fix.get g18 la_11 1 2 (by decide +kernel)).trans (by clear h; omega)) ?_
    refine Z_iload dX2_measure_51 rfl ?_
    refine Z_bipush dX2_measure_53 (by decide) ?_
    refine Z_imul dX2_measure_55 ?_
    refine Z_iload dX2_measure_56 rfl ?_
    refine Z_iadd dX2_measure_58 ?_
    refine Z_aload_n 2 dX2_measure_59 rfl rfl ?_
    refine Z_iload_n 3 dX2_measure_60 rfl rfl ?_
    refine Z_iload dX2_measure_61 rfl ?_
    refine Z_invV (T := TX5) (N := 2) (ci := 5) (M' := mX5_tell) (ρ' := rX5_tell zN) (st := [(0, ((x5 * 8) + x6)), (2, 13)]) [(0, x3), (0, r16)] dX2_measure_63 rfl rfl la_6 (z_leN la_6 (by decide)) (by decide) rfl rfl (kX5_tell.cl (Nat.le_of_ble_eq_true rfl) (Nat.le_refl _) (Nat.le_refl _) (Nat.le_of_ble_eq_true rfl) (Nat.le_of_ble_eq_true rfl) (Nat.le_of_ble_eq_true rfl)) (mlX2_74 rfl) iX5_tell sX5_tell h (z_ki (fun r19 σ20 h => ?_))
    obtain ⟨g21, h⟩ := h
    obtain ⟨g22, h⟩ := h
    refine Z_iast dX2_measure_66 la_13 (z_leN la_13 (by decide)) g21 g22 ?_
    refine Z_iinc (L' := [(2, 11), (2, p1), (2, 6), (0, x3), (0, x4), (0, x5), (0, (x6 + 1)), (0, r16)]) dX2_measure_67 rfl (Nat.le_of_ble_eq_true rfl) rfl ?_
    refine Z_goto (tgt := 15) dX2_measure_70 (by decide) ?_
    exact Z_few (z_few_k (z_few_k (z_few_k (z_few_k (z_few_k (z_few_k (z_few_k (z_few_d z_few_0)))))))) h
theorem bk_X2_reachOut {X : ZS} {σ : ZM} {T : ZM → Prop} {p1 : Int} (hp1 : z_l p1 = (6, 3)) {p2 : Int} (hp2 : z_l p2 = (6, 3)) {x4 : Int} (h : Z X (rX2_reachOut zN) mX2_reachOut 11 [(2, 11), (2, p1), (2, p2), (2, 6), (0, x4), (0, 0), (9, 0), (9, 0)] [] zN (z_up σ 11 5 (σ p2 2)) (zQv T)) : ZC X (rX2_reachOut zN) mX2_reachOut [(2, 11), (2, p1), (2, p2), (2, 6), (0, x4)] zN σ (zQv T) := by
  show Z X _ _ 0 [(2, 11), (2, p1), (2, p2), (2, 6), (0, x4), (9, 0), (9, 0), (9, 0)] [] _ σ _
  refine Z_aload_n 0 dX2_reachOut_0 rfl rfl ?_
  refine Z_aload_n 2 dX2_reachOut_1 rfl rfl ?_
  refine Z_get (T := TX6) (N := 3) (ci := 6) (t := 0) 2 dX2_reachOut_2 hp2 (z_leN hp2 (by decide)) rfl (by decide) inX6 (by decide) (flX2_34 rfl) rfl ?_
  refine Z_put (T := TX2) (N := 6) (ci := 2) (t := 0) tyX2 5 dX2_reachOut_5 la_11 (z_leN la_11 (by decide)) rfl (by decide) inX2 (by decide) (plX2_82 rfl) rfl tyX2_ok nmX2 rfl (z_nf_i _) ?_
  refine Z_iconst dX2_reachOut_8 ?_
  refine Z_istore (L' := [(2, 11), (2, p1), (2, p2), (2, 6), (0, x4), (0, 0), (9, 0), (9, 0)]) dX2_reachOut_9 (Nat.le_of_ble_eq_true rfl) rfl ?_
  exact Z_few (z_few_k (z_few_k (z_few_k (z_few_k (z_few_k (z_few_k (z_few_k (z_few_k z_few_0)))))))) h
theorem bk_X2_reachOut_11 {X : ZS} {σ : ZM} {T : ZM → Prop} {p1 : Int} (hp1 : z_l p1 = (6, 3)) {p2 : Int} (hp2 : z_l p2 = (6, 3)) {x4 : Int} {x5 : Int} (h : (r32 x5) ∧ (r32 (σ 11 4)) ∧ (((σ 11 4) ≤ x5) → T σ) ∧ ((¬ ((σ 11 4) ≤ x5)) → (Fix σ) ∧ (0 ≤ x5) ∧ (x5 < 8) ∧ Z X (rX2_reachOut zN) mX2_reachOut 31 [(2, 11), (2, p1), (2, p2), (2, 6), (0, x4), (0, x5), (0, 0), (9, 0)] [] zN (z_up σ 14 x5 0) (zQv T))) : Z X (rX2_reachOut zN) mX2_reachOut 11 [(2, 11), (2, p1), (2, p2), (2, 6), (0, x4), (0, x5), (9, 0), (9, 0)] [] zN σ (zQv T) := by
  refine Z_iload dX2_reachOut_11 rfl ?_
  refine Z_aload_n 0 dX2_reachOut_13 rfl rfl ?_
  refine Z_get (T := TX2) (N := 6) (ci := 2) (t := 0) 4 dX2_reachOut_14 la_11 (z_leN la_11 (by decide)) rfl (by decide) inX2 (by decide) (flX2_24 rfl) rfl ?_
  obtain ⟨g1, h⟩ := h
  obtain ⟨g2, h⟩ := h
  refine Z_icmp_ge (tgt := 97) dX2_reachOut_17 (by decide) g1 g2 (fun c => ?_) (fun c => ?_)
  · replace h := h.1 c
    exact Z_return dX2_reachOut_97 rfl rfl ⟨rfl, h⟩
  · replace h := h.2 c
    refine Z_aload_n 0 dX2_reachOut_20 rfl rfl ?_
    obtain ⟨g3, h⟩ := h
    refine Z_get (T := TX2) (N := 6) (ci := 2) (t := 2) 2 dX2_reachOut_21 la_11 (z_leN la_11 (by decide)) rfl (by decide) inX2 (by decide) (flX2_18 rfl) rfl ?_
    refine Z_top (y := 14) ((Fix.get g3 la_11 2 3 (by decide +kernel)).trans (by clear h; omega)) ?_
    refine Z_iload dX2_reachOut_24 rfl ?_
    refine Z_iconst dX2_reachOut_26 ?_
    obtain ⟨g4, h⟩ := h
    obtain ⟨g5, h⟩ := h
    refine Z_iast dX2_reachOut_27 la_14 (z_leN la_14 (by decide)) g4 g5 ?_
    refine Z_iconst dX2_reachOut_28 ?_
    refine Z_istore (L' := [(2, 11), (2, p1), (2, p2), (2, 6), (0, x4), (0, x5), (0, 0), (9, 0)]) dX2_reachOut_29 (Nat.le_of_ble_eq_true rfl) rfl ?_
    exact Z_few (z_few_k (z_few_k (z_few_k (z_few_k (z_few_k (z_few_k (z_few_k (z_few_k z_few_0)))))))) h
theorem bk_X2_reachOut_31 {X : ZS} {σ : ZM} {T : ZM → Prop} {p1 : Int} (hp1 : z_l p1 = (6, 3)) {p2 : Int} (hp2 : z_l p2 = (6, 3)) {x4 : Int} {x5 : Int} {x6 : Int} (h : (r32 x6) ∧ (r32 (σ p2 2)) ∧ (((σ p2 2) ≤ x6) → Z X (rX2_reachOut zN) mX2_reachOut 11 [(2, 11), (2, p1), (2, p2), (2, 6), (0, x4), (0, (x5 + 1)), (9, 0), (9, 0)] [] zN σ (zQv T)) ∧ ((¬ ((σ p2 2) ≤ x6)) → (Fix σ) ∧ (0 ≤ x5) ∧ (x5 < 8) ∧ (0 ≤ x6) ∧ (x6 < (((z_l (p2 + 1)).2 : Nat) : Int)) ∧ (x6 < (((z_l (p2 + 2)).2 : Nat) : Int)) ∧ ZC X (rX6_wayTo zN) mX6_wayTo [(2, p1), (0, (σ 12 x5)), (0, (σ (p2 + 1) x6)), (0, (σ (p2 + 2) x6))] zN σ (zQi (fun r9 σ10 => (Fix σ10) ∧ ZC X (rX5_tell zN) mX5_tell [(2, 6), (0, x4), (0, r9)] zN σ10 (zQi (fun r12 σ13 => Z X (rX2_reachOut zN) mX2_reachOut 31 [(2, 11), (2, p1), (2, p2), (2, 6), (0, x4), (0, x5), (0, (x6 + 1)), (9, 0)] [] zN (z_up σ13 14 x5 ((σ10 14 x5) + r12)) (zQv T))))))) : Z X (rX2_reachOut zN) mX2_reachOut 31 [(2, 11), (2, p1), (2, p2), (2, 6), (0, x4), (0, x5), (0, x6), (9, 0)] [] zN σ (zQv T) := by
  refine Z_iload dX2_reachOut_31 rfl ?_
  refine Z_aload_n 2 dX2_reachOut_33 rfl rfl ?_
  refine Z_get (T := TX6) (N := 3) (ci := 6) (t := 0) 2 dX2_reachOut_34 hp2 (z_leN hp2 (by decide)) rfl (by decide) inX6 (by decide) (flX2_34 rfl) rfl ?_
  obtain ⟨g1, h⟩ := h
  obtain ⟨g2, h⟩ := h
  refine Z_icmp_ge (tgt := 91) dX2_reachOut_37 (by decide) g1 g2 (fun c => ?_) (fun c => ?_)
  · replace h := h.1 c
    refine Z_iinc (L' := [(2, 11), (2, p1), (2, p2), (2, 6), (0, x4), (0, (x5 + 1)), (0, x6), (9, 0)]) dX2_reachOut_91 rfl (Nat.le_of_ble_eq_true rfl) rfl ?_
    refine Z_goto (tgt := 11) dX2_reachOut_94 (by decide) ?_
    exact Z_few (z_few_k (z_few_k (z_few_k (z_few_k (z_few_k (z_few_k (z_few_d (z_few_k z_few_0)))))))) h
  · replace h := h.2 c
    refine Z_aload_n 1 dX2_reachOut_40 rfl rfl ?_
    refine Z_aload_n 0 dX2_reachOut_41 rfl rfl ?_
    obtain ⟨g3, h⟩ := h
    refine Z_get (T := TX2) (N := 6) (ci := 2) (t := 2) 0 dX2_reachOut_42 la_11 (z_leN la_11 (by decide)) rfl (by decide) inX2 (by decide) (flX2_9 rfl) rfl ?_
    refine Z_top (y := 12) ((Fix.get g3 la_11 0 1 (by decide +kernel)).trans (by clear h; omega)) ?_
    refine Z_iload dX2_reachOut_45 rfl ?_
    obtain ⟨g4, h⟩ := h
    obtain ⟨g5, h⟩ := h
    refine Z_iald dX2_reachOut_47 la_12 (z_leN la_12 (by decide)) g4 g5 ?_
    refine Z_aload_n 2 dX2_reachOut_48 rfl rfl ?_
    refine Z_get (T := TX6) (N := 3) (ci := 6) (t := 2) 0 dX2_reachOut_49 hp2 (z_leN hp2 (by decide)) rfl (by decide) inX6 (by decide) (flX2_37 rfl) rfl ?_
    refine Z_top (y := (p2 + 1)) (Fix.get g3 hp2 0 1 (by decide +kernel)) ?_
    refine Z_iload dX2_reachOut_52 rfl ?_
    obtain ⟨g6, h⟩ := h
    obtain ⟨g7, h⟩ := h
    refine Z_iald dX2_reachOut_54 (zo_6_0 hp2) (z_leN (zo_6_0 hp2) (by decide)) g6 g7 ?_
    refine Z_aload_n 2 dX2_reachOut_55 rfl rfl ?_
    refine Z_get (T := TX6) (N := 3) (ci := 6) (t := 2) 1 dX2_reachOut_56 hp2 (z_leN hp2 (by decide)) rfl (by decide) inX6 (by decide) (flX2_40 rfl) rfl ?_
    refine Z_top (y := (p2 + 2)) (Fix.get g3 hp2 1 2 (by decide +kernel)) ?_
    refine Z_iload dX2_reachOut_59 rfl ?_
    obtain ⟨g8, h⟩ := h
    refine Z_iald dX2_reachOut_61 (zo_6_1 hp2) (z_leN (zo_6_1 hp2) (by decide)) g6 g8 ?_
    refine Z_invV (T := TX6) (N := 3) (ci := 6) (M' := mX6_wayTo) (ρ' := rX6_wayTo zN) (st := []) [(0, (σ 12 x5)), (0, (σ (p2 + 1) x6)), (0, (σ (p2 + 2) x6))] dX2_reachOut_62 rfl rfl hp1 (z_leN hp1 (by decide)) (by decide) rfl rfl (kX6_wayTo.cl (Nat.le_of_ble_eq_true rfl) (Nat.le_refl _) (Nat.le_refl _) (Nat.le_of_ble_eq_true rfl) (Nat.le_of_ble_eq_true rfl) (Nat.le_of_ble_eq_true rfl)) (mlX2_43 rfl) iX6_wayTo sX6_wayTo h (z_ki (fun r9 σ10 h => ?_))
    refine Z_istore (L' := [(2, 11), (2, p1), (2, p2), (2, 6), (0, x4), (0, x5), (0, x6), (0, r9)]) dX2_reachOut_65 (Nat.le_of_ble_eq_true rfl) rfl ?_
    refine Z_aload_n 0 dX2_reachOut_67 rfl rfl ?_
    obtain ⟨g11, h⟩ := h
    refine Z_get (T := TX2) (N := 6) (ci := 2) (t := 2) 2 dX2_reachOut_68 la_11 (z_leN la_11 (by decide)) rfl (by decide) inX2 (by decide) (flX2_18 rfl) rfl ?_
    refine Z_top (y := 14) ((Fix.get g11 la_11 2 3 (by decide +kernel)).trans (by clear h; omega)) ?_
    refine Z_iload dX2_reachOut_71 rfl ?_
    refine Z_dup2 dX2_reachOut_73 (by simp) (by simp) ?_
    refine Z_iald dX2_reachOut_74 la_14 (z_leN la_14 (by decide)) g4 g5 ?_
    refine Z_aload_n 3 dX2_reachOut_75 rfl rfl ?_
    refine Z_iload dX2_reachOut_76 rfl ?_
    refine Z_iload dX2_reachOut_78 rfl ?_
    refine Z_invV (T := TX5) (N := 2) (ci := 5) (M' := mX5_tell) (ρ' := rX5_tell zN) (st := [(0, (σ10 14 x5)), (0, x5), (2, 14)]) [(0, x4), (0, r9)] dX2_reachOut_80 rfl rfl la_6 (z_leN la_6 (by decide)) (by decide) rfl rfl (kX5_tell.cl (Nat.le_of_ble_eq_true rfl) (Nat.le_refl _) (Nat.le_refl _) (Nat.le_of_ble_eq_true rfl) (Nat.le_of_ble_eq_true rfl) (Nat.le_of_ble_eq_true rfl)) (mlX2_74 rfl) iX5_tell sX5_tell h (z_ki (fun r12 σ13 h => ?_))
    refine Z_iadd dX2_reachOut_83 ?_
    refine Z_iast dX2_reachOut_84 la_14 (z_leN la_14 (by decide)) g4 g5 ?_
    refine Z_iinc (L' := [(2, 11), (2, p1), (2, p2), (2, 6), (0, x4), (0, x5), (0, (x6 + 1)), (0, r9)]) dX2_reachOut_85 rfl (Nat.le_of_ble_eq_true rfl) rfl ?_
    refine Z_goto (tgt := 31) dX2_reachOut_88 (by decide) ?_
    exact Z_few (z_few_k (z_few_k (z_few_k (z_few_k (z_few_k (z_few_k (z_few_k (z_few_d z_few_0)))))))) h
theorem bk_X2_unlikeWithin {X : ZS} {σ : ZM} {T : Int → ZM → Prop} {p1 : Int} (hp1 : z_l p1 = (6, 3)) {x3 : Int} (h : Z X (rX2_unlikeWithin zN) mX2_unlikeWithin 6 [(9, 0), (2, p1), (2, 6), (0, x3), (0, 0), (0, 0), (9, 0)] [] zN σ (zQi T)) : ZC X (rX2_unlikeWithin zN) mX2_unlikeWithin [(2, 11), (2, p1), (2, 6), (0, x3)] zN σ (zQi T) := by
  show Z X _ _ 0 [(2, 11), (2, p1), (2, 6), (0, x3), (9, 0), (9, 0), (9, 0)] [] _ σ _
  refine Z_iconst dX2_unlikeWithin_0 ?_
  refine Z_istore (L' := [(2, 11), (2, p1), (2, 6), (0, x3), (0, 0), (9, 0), (9, 0)]) dX2_unlikeWithin_1 (Nat.le_of_ble_eq_true rfl) rfl ?_
  refine Z_iconst dX2_unlikeWithin_3 ?_
  refine Z_istore (L' := [(2, 11), (2, p1), (2, 6), (0, x3), (0, 0), (0, 0), (9, 0)]) dX2_unlikeWithin_4 (Nat.le_of_ble_eq_true rfl) rfl ?_
  exact Z_few (z_few_d (z_few_k (z_few_k (z_few_k (z_few_k (z_few_k (z_few_k z_few_0))))))) h
theorem bk_X2_unlikeWithin_6 {X : ZS} {σ : ZM} {T : Int → ZM → Prop} {p1 : Int} (hp1 : z_l p1 = (6, 3)) {x3 : Int} {x4 : Int} {x5 : Int} (h : (r32 x5) ∧ (r32 (σ p1 2)) ∧ (((σ p1 2) ≤ x5) → T x4 σ) ∧ ((¬ ((σ p1 2) ≤ x5)) → Z X (rX2_unlikeWithin zN) mX2_unlikeWithin 18 [(9, 0), (2, p1), (2, 6), (0, x3), (0, x4), (0, x5), (0, 0)] [] zN σ (zQi T))) : Z X (rX2_unlikeWithin zN) mX2_unlikeWithin 6 [(9, 0), (2, p1), (2, 6), (0, x3), (0, x4), (0, x5), (9, 0)] [] zN σ (zQi T) := by
  refine Z_iload dX2_unlikeWithin_6 rfl ?_
  refine Z_aload_n 1 dX2_unlikeWithin_8 rfl rfl ?_
  refine Z_get (T := TX6) (N := 3) (ci := 6) (t := 0) 2 dX2_unlikeWithin_9 hp1 (z_leN hp1 (by decide)) rfl (by decide) inX6 (by decide) (flX2_34 rfl) rfl ?_
  obtain ⟨g1, h⟩ := h
  obtain ⟨g2, h⟩ := h
  refine Z_icmp_ge (tgt := 57) dX2_unlikeWithin_12 (by decide) g1 g2 (fun c => ?_) (fun c => ?_)
  · replace h := h.1 c
    refine Z_iload dX2_unlikeWithin_57 rfl ?_
    exact Z_ireturn dX2_unlikeWithin_59 rfl rfl ⟨rfl, h⟩
  · replace h := h.2 c
    refine Z_iconst dX2_unlikeWithin_15 ?_
    refine Z_istore (L' := [(9, 0), (2, p1), (2, 6), (0, x3), (0, x4), (0, x5), (0, 0)]) dX2_unlikeWithin_16 (Nat.le_of_ble_eq_true rfl) rfl ?_
    exact Z_few (z_few_k (z_few_k (z_few_k (z_few_k (z_few_k (z_few_k (z_few_k z_few_0))))))) h
theorem bk_X2_unlikeWithin_18 {X : ZS} {σ : ZM} {T : Int → ZM → Prop} {p1 : Int} (hp1 : z_l p1 = (6, 3)) {x3 : Int} {x4 : Int} {x5 : Int} {x6 : Int} (h : (r32 x6) ∧ (r32 (σ p1 2)) ∧ (((σ p1 2) ≤ x6) → Z X (rX2_unlikeWithin zN) mX2_unlikeWithin 6 [(9, 0), (2, p1), (2, 6), (0, x3), (0, x4), (0, (x5 + 1)), (9, 0)] [] zN σ (zQi T)) ∧ ((¬ ((σ p1 2) ≤ x6)) → ZC X (rX6_way zN) mX6_way [(2, p1), (0, x5), (0, x6)] zN σ (zQi (fun r3 σ4 => ZC X (rX5_tell zN) mX5_tell [(2, 6), (0, x3), (0, r3)] zN σ4 (zQi (fun r5 σ6 => Z X (rX2_unlikeWithin zN) mX2_unlikeWithin 18 [(9, 0), (2, p1), (2, 6), (0, x3), (0, (x4 + r5)), (0, x5), (0, (x6 + 1))] [] zN σ6 (zQi T))))))) : Z X (rX2_unlikeWithin zN) mX2_unlikeWithin 18 [(9, 0), (2, p1), (2, 6), (0, x3), (0, x4), (0, x5), (0, x6)] [] zN σ (zQi T) := by
  refine Z_iload dX2_unlikeWithin_18 rfl ?_
  refine Z_aload_n 1 dX2_unlikeWithin_20 rfl rfl ?_
  refine Z_get (T := TX6) (N := 3) (ci := 6) (t := 0) 2 dX2_unlikeWithin_21 hp1 (z_leN hp1 (by decide)) rfl (by decide) inX6 (by decide) (flX2_34 rfl) rfl ?_
  obtain ⟨g1, h⟩ := h
  obtain ⟨g2, h⟩ := h
  refine Z_icmp_ge (tgt := 51) dX2_unlikeWithin_24 (by decide) g1 g2 (fun c => ?_) (fun c => ?_)
  · replace h := h.1 c
    refine Z_iinc (L' := [(9, 0), (2, p1), (2, 6), (0, x3), (0, x4), (0, (x5 + 1)), (0, x6)]) dX2_unlikeWithin_51 rfl (Nat.le_of_ble_eq_true rfl) rfl ?_
    refine Z_goto (tgt := 6) dX2_unlikeWithin_54 (by decide) ?_
    exact Z_few (z_few_k (z_few_k (z_few_k (z_few_k (z_few_k (z_few_k (z_few_d z_few_0))))))) h
  · replace h := h.2 c
    refine Z_iload dX2_unlikeWithin_27 rfl ?_
    refine Z_aload_n 2 dX2_unlikeWithin_29 rfl rfl ?_
    refine Z_iload_n 3 dX2_unlikeWithin_30 rfl rfl ?_
    refine Z_aload_n 1 dX2_unlikeWithin_31 rfl rfl ?_
    refine Z_iload dX2_unlikeWithin_32 rfl ?_
    refine Z_iload dX2_unlikeWithin_34 rfl ?_
    refine Z_invV (T := TX6) (N := 3) (ci := 6) (M' := mX6_way) (ρ' := rX6_way zN) (st := [(0, x3), (2, 6), (0, x4)]) [(0, x5), (0, x6)] dX2_unlikeWithin_36 rfl rfl hp1 (z_leN hp1 (by decide)) (by decide) rfl rfl (kX6_way.cl (Nat.le_of_ble_eq_true rfl) (Nat.le_refl _) (Nat.le_refl _) (Nat.le_of_ble_eq_true rfl) (Nat.le_of_ble_eq_true rfl) (Nat.le_of_ble_eq_true rfl)) (mlX2_71 rfl) iX6_way sX6_way h (z_ki (fun r3 σ4 h => ?_))
    refine Z_invV (T := TX5) (N := 2) (ci := 5) (M' := mX5_tell) (ρ' := rX5_tell zN) (st := [(0, x4)]) [(0, x3), (0, r3)] dX2_unlikeWithin_39 rfl rfl la_6 (z_leN la_6 (by decide)) (by decide) rfl rfl (kX5_tell.cl (Nat.le_of_ble_eq_true rfl) (Nat.le_refl _) (Nat.le_refl _) (Nat.le_of_ble_eq_true rfl) (Nat.le_of_ble_eq_true rfl) (Nat.le_of_ble_eq_true rfl)) (mlX2_74 rfl) iX5_tell sX5_tell h (z_ki (fun r5 σ6 h => ?_))
    refine Z_iadd dX2_unlikeWithin_42 ?_
    refine Z_istore (L' := [(9, 0), (2, p1), (2, 6), (0, x3), (0, (x4 + r5)), (0, x5), (0, x6)]) dX2_unlikeWithin_43 (Nat.le_of_ble_eq_true rfl) rfl ?_
    refine Z_iinc (L' := [(9, 0), (2, p1), (2, 6), (0, x3), (0, (x4 + r5)), (0, x5), (0, (x6 + 1))]) dX2_unlikeWithin_45 rfl (Nat.le_of_ble_eq_true rfl) rfl ?_
    refine Z_goto (tgt := 18) dX2_unlikeWithin_48 (by decide) ?_
    exact Z_few (z_few_k (z_few_k (z_few_k (z_few_k (z_few_k (z_few_k (z_few_k z_few_0))))))) h
theorem bk_X2_fillSquare {X : ZS} {σ : ZM} {T : ZM → Prop}  (h : Z X (rX2_fillSquare zN) mX2_fillSquare 2 [(2, 11), (2, 16), (0, 1), (9, 0), (9, 0)] [] zN σ (zQv T)) : ZC X (rX2_fillSquare zN) mX2_fillSquare [(2, 11), (2, 16)] zN σ (zQv T) := by
  show Z X _ _ 0 [(2, 11), (2, 16), (9, 0), (9, 0), (9, 0)] [] _ σ _
  refine Z_iconst dX2_fillSquare_0 ?_
  refine Z_istore_n (L' := [(2, 11), (2, 16), (0, 1), (9, 0), (9, 0)]) 2 dX2_fillSquare_1 rfl (Nat.le_of_ble_eq_true rfl) rfl ?_
  exact Z_few (z_few_k (z_few_k (z_few_k (z_few_k (z_few_k z_few_0))))) h
theorem bk_X2_fillSquare_2 {X : ZS} {σ : ZM} {T : ZM → Prop} {x2 : Int} (h : (r32 x2) ∧ (r32 (σ 11 4)) ∧ (((σ 11 4) ≤ x2) → T σ) ∧ ((¬ ((σ 11 4) ≤ x2)) → Z X (rX2_fillSquare zN) mX2_fillSquare 12 [(2, 11), (2, 16), (0, x2), (0, 1), (9, 0)] [] zN σ (zQv T))) : Z X (rX2_fillSquare zN) mX2_fillSquare 2 [(2, 11), (2, 16), (0, x2), (9, 0), (9, 0)] [] zN σ (zQv T) := by
  refine Z_iload_n 2 dX2_fillSquare_2 rfl rfl ?_
  refine Z_aload_n 0 dX2_fillSquare_3 rfl rfl ?_
  refine Z_get (T := TX2) (N := 6) (ci := 2) (t := 0) 4 dX2_fillSquare_4 la_11 (z_leN la_11 (by decide)) rfl (by decide) inX2 (by decide) (flX2_24 rfl) rfl ?_
  obtain ⟨g1, h⟩ := h
  obtain ⟨g2, h⟩ := h
  refine Z_icmp_ge (tgt := 82) dX2_fillSquare_7 (by decide) g1 g2 (fun c => ?_) (fun c => ?_)
  · replace h := h.1 c
    exact Z_return dX2_fillSquare_82 rfl rfl ⟨rfl, h⟩
  · replace h := h.2 c
    refine Z_iconst dX2_fillSquare_10 ?_
    refine Z_istore_n (L' := [(2, 11), (2, 16), (0, x2), (0, 1), (9, 0)]) 3 dX2_fillSquare_11 rfl (Nat.le_of_ble_eq_true rfl) rfl ?_
    exact Z_few (z_few_k (z_few_k (z_few_k (z_few_k (z_few_k z_few_0))))) h
theorem bk_X2_fillSquare_12 {X : ZS} {σ : ZM} {T : ZM → Prop} {x2 : Int} {x3 : Int} (h : (r32 x3) ∧ (r32 (σ 11 4)) ∧ (((σ 11 4) ≤ x3) → Z X (rX2_fillSquare zN) mX2_fillSquare 2 [(2, 11), (2, 16), (0, (x2 + 1)), (9, 0), (9, 0)] [] zN σ (zQv T)) ∧ ((¬ ((σ 11 4) ≤ x3)) → (Fix σ) ∧ (0 ≤ (x2 * 8)) ∧ ((x2 * 8) < 64) ∧ (0 ≤ x3) ∧ (x3 < 64) ∧ (0 ≤ ((x2 * 8) + x3)) ∧ (((x2 * 8) + x3) < 64) ∧ (r32 ((((σ 13 (x2 * 8)) + (σ 13 x3)) - (σ 13 ((x2 * 8) + x3))) - (σ 13 0))) ∧ ZC X (rX4_put zN) mX4_put [(2, 16), (0, (x2 - 1)), (0, (x3 - 1)), (1, ((((σ 13 (x2 * 8)) + (σ 13 x3)) - (σ 13 ((x2 * 8) + x3))) - (σ 13 0)))] zN σ (zQv (fun σ12 => Z X (rX2_fillSquare zN) mX2_fillSquare 12 [(2, 11), (2, 16), (0, x2), (0, (x3 + 1)), (9, 0)] [] zN σ12 (zQv T))))) : Z X (rX2_fillSquare zN) mX2_fillSquare 12 [(2, 11), (2, 16), (0, x2), (0, x3), (9, 0)] [] zN σ (zQv T) := by
  refine Z_iload_n 3 dX2_fillSquare_12 rfl rfl ?_
  refine Z_aload_n 0 dX2_fillSquare_13 rfl rfl ?_
  refine Z_get (T := TX2) (N := 6) (ci := 2) (t := 0) 4 dX2_fillSquare_14 la_11 (z_leN la_11 (by decide)) rfl (by decide) inX2 (by decide) (flX2_24 rfl) rfl ?_
  obtain ⟨g1, h⟩ := h
  obtain ⟨g2, h⟩ := h
  refine Z_icmp_ge (tgt := 76) dX2_fillSquare_17 (by decide) g1 g2 (fun c => ?_) (fun c => ?_)
  · replace h := h.1 c
    refine Z_iinc (L' := [(2, 11), (2, 16), (0, (x2 + 1)), (0, x3), (9, 0)]) dX2_fillSquare_76 rfl (Nat.le_of_ble_eq_true rfl) rfl ?_
    refine Z_goto (tgt := 2) dX2_fillSquare_79 (by decide) ?_
    exact Z_few (z_few_k (z_few_k (z_few_k (z_few_d (z_few_k z_few_0))))) h
  · replace h := h.2 c
    refine Z_aload_n 0 dX2_fillSquare_20 rfl rfl ?_
    obtain ⟨g3, h⟩ := h
    refine Z_get (T := TX2) (N := 6) (ci := 2) (t := 2) 1 dX2_fillSquare_21 la_11 (z_leN la_11 (by decide)) rfl (by decide) inX2 (by decide) (flX2_15 rfl) rfl ?_
    refine Z_top (y := 13) ((Fix.get g3 la_11 1 2 (by decide +kernel)).trans (by clear h; omega)) ?_
    refine Z_iload_n 2 dX2_fillSquare_24 rfl rfl ?_
    refine Z_bipush dX2_fillSquare_25 (by decide) ?_
    refine Z_imul dX2_fillSquare_27 ?_
    obtain ⟨g4, h⟩ := h
    obtain ⟨g5, h⟩ := h
    refine Z_iald dX2_fillSquare_28 la_13 (z_leN la_13 (by decide)) g4 g5 ?_
    refine Z_aload_n 0 dX2_fillSquare_29 rfl rfl ?_
    refine Z_get (T := TX2) (N := 6) (ci := 2) (t := 2) 1 dX2_fillSquare_30 la_11 (z_leN la_11 (by decide)) rfl (by decide) inX2 (by decide) (flX2_15 rfl) rfl ?_
    refine Z_top (y := 13) ((Fix.get g3 la_11 1 2 (by decide +kernel)).trans (by clear h; omega)) ?_
    refine Z_iload_n 3 dX2_fillSquare_33 rfl rfl ?_
    obtain ⟨g6, h⟩ := h
    obtain ⟨g7, h⟩ := h
    refine Z_iald dX2_fillSquare_34 la_13 (z_leN la_13 (by decide)) g6 g7 ?_
    refine Z_iadd dX2_fillSquare_35 ?_
    refine Z_aload_n 0 dX2_fillSquare_36 rfl rfl ?_
    refine Z_get (T := TX2) (N := 6) (ci := 2) (t := 2) 1 dX2_fillSquare_37 la_11 (z_leN la_11 (by decide)) rfl (by decide) inX2 (by decide) (flX2_15 rfl) rfl ?_
    refine Z_top (y := 13) ((Fix.get g3 la_11 1 2 (by decide +kernel)).trans (by clear h; omega)) ?_
    refine Z_iload_n 2 dX2_fillSquare_40 rfl rfl ?_
    refine Z_bipush dX2_fillSquare_41 (by decide) ?_
    refine Z_imul dX2_fillSquare_43 ?_
    refine Z_iload_n 3 dX2_fillSquare_44 rfl rfl ?_
    refine Z_iadd dX2_fillSquare_45 ?_
    obtain ⟨g8, h⟩ := h
    obtain ⟨g9, h⟩ := h
    refine Z_iald dX2_fillSquare_46 la_13 (z_leN la_13 (by decide)) g8 g9 ?_
    refine Z_isub dX2_fillSquare_47 ?_
    refine Z_aload_n 0 dX2_fillSquare_48 rfl rfl ?_
    refine Z_get (T := TX2) (N := 6) (ci := 2) (t := 2) 1 dX2_fillSquare_49 la_11 (z_leN la_11 (by decide)) rfl (by decide) inX2 (by decide) (flX2_15 rfl) rfl ?_
    refine Z_top (y := 13) ((Fix.get g3 la_11 1 2 (by decide +kernel)).trans (by clear h; omega)) ?_
    refine Z_iconst dX2_fillSquare_52 ?_
    refine Z_iald dX2_fillSquare_53 la_13 (z_leN la_13 (by decide)) (by decide) (by decide) ?_
    refine Z_isub dX2_fillSquare_54 ?_
    refine Z_istore (L' := [(2, 11), (2, 16), (0, x2), (0, x3), (0, ((((σ 13 (x2 * 8)) + (σ 13 x3)) - (σ 13 ((x2 * 8) + x3))) - (σ 13 0)))]) dX2_fillSquare_55 (Nat.le_of_ble_eq_true rfl) rfl ?_
    refine Z_aload_n 1 dX2_fillSquare_57 rfl rfl ?_
    refine Z_iload_n 2 dX2_fillSquare_58 rfl rfl ?_
    refine Z_iconst dX2_fillSquare_59 ?_
    refine Z_isub dX2_fillSquare_60 ?_
    refine Z_iload_n 3 dX2_fillSquare_61 rfl rfl ?_
    refine Z_iconst dX2_fillSquare_62 ?_
    refine Z_isub dX2_fillSquare_63 ?_
    refine Z_iload dX2_fillSquare_64 rfl ?_
    obtain ⟨g10, h⟩ := h
    refine Z_i2l dX2_fillSquare_66 g10 ?_
    refine Z_invV (T := TX4) (N := 6) (ci := 4) (M' := mX4_put) (ρ' := rX4_put zN) (st := []) [(0, (x2 - 1)), (0, (x3 - 1)), (1, ((((σ 13 (x2 * 8)) + (σ 13 x3)) - (σ 13 ((x2 * 8) + x3))) - (σ 13 0)))] dX2_fillSquare_67 rfl rfl la_16 (z_leN la_16 (by decide)) (by decide) rfl rfl (kX4_put.cl (Nat.le_of_ble_eq_true rfl) (Nat.le_refl _) (Nat.le_refl _) (Nat.le_of_ble_eq_true rfl) (Nat.le_of_ble_eq_true rfl) (Nat.le_of_ble_eq_true rfl)) (mlX2_85 rfl) iX4_put sX4_put h (z_kv (fun σ12 h => ?_))
    refine Z_iinc (L' := [(2, 11), (2, 16), (0, x2), (0, (x3 + 1)), (0, ((((σ 13 (x2 * 8)) + (σ 13 x3)) - (σ 13 ((x2 * 8) + x3))) - (σ 13 0)))]) dX2_fillSquare_70 rfl (Nat.le_of_ble_eq_true rfl) rfl ?_
    refine Z_goto (tgt := 12) dX2_fillSquare_73 (by decide) ?_
    exact Z_few (z_few_k (z_few_k (z_few_k (z_few_k (z_few_d z_few_0))))) h
theorem bk_X2_fillRight {X : ZS} {σ : ZM} {T : ZM → Prop}  (h : Z X (rX2_fillRight zN) mX2_fillRight 2 [(2, 11), (2, 16), (0, 1), (9, 0)] [] zN σ (zQv T)) : ZC X (rX2_fillRight zN) mX2_fillRight [(2, 11), (2, 16)] zN σ (zQv T) := by
  show Z X _ _ 0 [(2, 11), (2, 16), (9, 0), (9, 0)] [] _ σ _
  refine Z_iconst dX2_fillRight_0 ?_
  refine Z_istore_n (L' := [(2, 11), (2, 16), (0, 1), (9, 0)]) 2 dX2_fillRight_1 rfl (Nat.le_of_ble_eq_true rfl) rfl ?_
  exact Z_few (z_few_k (z_few_k (z_few_k (z_few_k z_few_0)))) h
theorem bk_X2_fillRight_2 {X : ZS} {σ : ZM} {T : ZM → Prop} {x2 : Int} (h : (r32 x2) ∧ (r32 (σ 11 4)) ∧ (((σ 11 4) ≤ x2) → T σ) ∧ ((¬ ((σ 11 4) ≤ x2)) → (Fix σ) ∧ (0 ≤ x2) ∧ (x2 < 8) ∧ (0 ≤ (x2 * 8)) ∧ ((x2 * 8) < 64) ∧ (r32 (((σ 14 0) - (σ 14 x2)) + ((σ 11 5) * ((σ 13 (x2 * 8)) - (σ 13 0))))) ∧ ZC X (rX4_put zN) mX4_put [(2, 16), (0, (x2 - 1)), (0, ((σ 11 4) - 1)), (1, (((σ 14 0) - (σ 14 x2)) + ((σ 11 5) * ((σ 13 (x2 * 8)) - (σ 13 0)))))] zN σ (zQv (fun σ10 => Z X (rX2_fillRight zN) mX2_fillRight 2 [(2, 11), (2, 16), (0, (x2 + 1)), (9, 0)] [] zN σ10 (zQv T))))) : Z X (rX2_fillRight zN) mX2_fillRight 2 [(2, 11), (2, 16), (0, x2), (9, 0)] [] zN σ (zQv T) := by
  refine Z_iload_n 2 dX2_fillRight_2 rfl rfl ?_
  refine Z_aload_n 0 dX2_fillRight_3 rfl rfl ?_
  refine Z_get (T := TX2) (N := 6) (ci := 2) (t := 0) 4 dX2_fillRight_4 la_11 (z_leN la_11 (by decide)) rfl (by decide) inX2 (by decide) (flX2_24 rfl) rfl ?_
  obtain ⟨g1, h⟩ := h
  obtain ⟨g2, h⟩ := h
  refine Z_icmp_ge (tgt := 67) dX2_fillRight_7 (by decide) g1 g2 (fun c => ?_) (fun c => ?_)
  · replace h := h.1 c
    exact Z_return dX2_fillRight_67 rfl rfl ⟨rfl, h⟩
  · replace h := h.2 c
    refine Z_aload_n 0 dX2_fillRight_10 rfl rfl ?_
    obtain ⟨g3, h⟩ := h
    refine Z_get (T := TX2) (N := 6) (ci := 2) (t := 2) 2 dX2_fillRight_11 la_11 (z_leN la_11 (by decide)) rfl (by decide) inX2 (by decide) (flX2_18 rfl) rfl ?_
    refine Z_top (y := 14) ((Fix.get g3 la_11 2 3 (by decide +kernel)).trans (by clear h; omega)) ?_
    refine Z_iconst dX2_fillRight_14 ?_
    refine Z_iald dX2_fillRight_15 la_14 (z_leN la_14 (by decide)) (by decide) (by decide) ?_
    refine Z_aload_n 0 dX2_fillRight_16 rfl rfl ?_
    refine Z_get (T := TX2) (N := 6) (ci := 2) (t := 2) 2 dX2_fillRight_17 la_11 (z_leN la_11 (by decide)) rfl (by decide) inX2 (by decide) (flX2_18 rfl) rfl ?_
    refine Z_top (y := 14) ((Fix.get g3 la_11 2 3 (by decide +kernel)).trans (by clear h; omega)) ?_
    refine Z_iload_n 2 dX2_fillRight_20 rfl rfl ?_
    obtain ⟨g4, h⟩ := h
    obtain ⟨g5, h⟩ := h
    refine Z_iald dX2_fillRight_21 la_14 (z_leN la_14 (by decide)) g4 g5 ?_
    refine Z_isub dX2_fillRight_22 ?_
    refine Z_aload_n 0 dX2_fillRight_23 rfl rfl ?_
    refine Z_get (T := TX2) (N := 6) (ci := 2) (t := 0) 5 dX2_fillRight_24 la_11 (z_leN la_11 (by decide)) rfl (by decide) inX2 (by decide) (flX2_82 rfl) rfl ?_
    refine Z_aload_n 0 dX2_fillRight_27 rfl rfl ?_
    refine Z_get (T := TX2) (N := 6) (ci := 2) (t := 2) 1 dX2_fillRight_28 la_11 (z_leN la_11 (by decide)) rfl (by decide) inX2 (by decide) (flX2_15 rfl) rfl ?_
    refine Z_top (y := 13) ((Fix.get g3 la_11 1 2 (by decide +kernel)).trans (by clear h; omega)) ?_
    refine Z_iload_n 2 dX2_fillRight_31 rfl rfl ?_
    refine Z_bipush dX2_fillRight_32 (by decide) ?_
    refine Z_imul dX2_fillRight_34 ?_
    obtain ⟨g6, h⟩ := h
    obtain ⟨g7, h⟩ := h
    refine Z_iald dX2_fillRight_35 la_13 (z_leN la_13 (by decide)) g6 g7 ?_
    refine Z_aload_n 0 dX2_fillRight_36 rfl rfl ?_
    refine Z_get (T := TX2) (N := 6) (ci := 2) (t := 2) 1 dX2_fillRight_37 la_11 (z_leN la_11 (by decide)) rfl (by decide) inX2 (by decide) (flX2_15 rfl) rfl ?_
    refine Z_top (y := 13) ((Fix.get g3 la_11 1 2 (by decide +kernel)).trans (by clear h; omega)) ?_
    refine Z_iconst dX2_fillRight_40 ?_
    refine Z_iald dX2_fillRight_41 la_13 (z_leN la_13 (by decide)) (by decide) (by decide) ?_
    refine Z_isub dX2_fillRight_42 ?_
    refine Z_imul dX2_fillRight_43 ?_
    refine Z_iadd dX2_fillRight_44 ?_
    refine Z_istore_n (L' := [(2, 11), (2, 16), (0, x2), (0, (((σ 14 0) - (σ 14 x2)) + ((σ 11 5) * ((σ 13 (x2 * 8)) - (σ 13 0)))))]) 3 dX2_fillRight_45 rfl (Nat.le_of_ble_eq_true rfl) rfl ?_
    refine Z_aload_n 1 dX2_fillRight_46 rfl rfl ?_
    refine Z_iload_n 2 dX2_fillRight_47 rfl rfl ?_
    refine Z_iconst dX2_fillRight_48 ?_
    refine Z_isub dX2_fillRight_49 ?_
    refine Z_aload_n 0 dX2_fillRight_50 rfl rfl ?_
    refine Z_get (T := TX2) (N := 6) (ci := 2) (t := 0) 4 dX2_fillRight_51 la_11 (z_leN la_11 (by decide)) rfl (by decide) inX2 (by decide) (flX2_24 rfl) rfl ?_
    refine Z_iconst dX2_fillRight_54 ?_
    refine Z_isub dX2_fillRight_55 ?_
    refine Z_iload_n 3 dX2_fillRight_56 rfl rfl ?_
    obtain ⟨g8, h⟩ := h
    refine Z_i2l dX2_fillRight_57 g8 ?_
    refine Z_invV (T := TX4) (N := 6) (ci := 4) (M' := mX4_put) (ρ' := rX4_put zN) (st := []) [(0, (x2 - 1)), (0, ((σ 11 4) - 1)), (1, (((σ 14 0) - (σ 14 x2)) + ((σ 11 5) * ((σ 13 (x2 * 8)) - (σ 13 0)))))] dX2_fillRight_58 rfl rfl la_16 (z_leN la_16 (by decide)) (by decide) rfl rfl (kX4_put.cl (Nat.le_of_ble_eq_true rfl) (Nat.le_refl _) (Nat.le_refl _) (Nat.le_of_ble_eq_true rfl) (Nat.le_of_ble_eq_true rfl) (Nat.le_of_ble_eq_true rfl)) (mlX2_85 rfl) iX4_put sX4_put h (z_kv (fun σ10 h => ?_))
    refine Z_iinc (L' := [(2, 11), (2, 16), (0, (x2 + 1)), (0, (((σ 14 0) - (σ 14 x2)) + ((σ 11 5) * ((σ 13 (x2 * 8)) - (σ 13 0)))))]) dX2_fillRight_61 rfl (Nat.le_of_ble_eq_true rfl) rfl ?_
    refine Z_goto (tgt := 2) dX2_fillRight_64 (by decide) ?_
    exact Z_few (z_few_k (z_few_k (z_few_k (z_few_d z_few_0)))) h
theorem bk_X2_tellOff {X : ZS} {σ : ZM} {T : ZM → Prop} {p2 : Int} (hp2 : z_l p2 = (7, 3)) {x3 : Int} {p4 : Int} (hp4 : z_l p4 = (3, 2)) (h : (Fix σ) ∧ (r32 (σ 11 4)) ∧ (((σ 11 4) < 1) → T σ) ∧ ((¬ ((σ 11 4) < 1)) → ZC X (rX6_has zN) mX6_has [(2, (p2 + 1)), (0, x3)] zN σ (zQz (fun r3 σ4 => ((r3 = true) → (Fix σ4) ∧ (0 ≤ (σ4 12 0)) ∧ ((σ4 12 0) < 8) ∧ ZC X (rX9_copyFrom zN) mX9_copyFrom [(2, (p4 + 3)), (2, 20)] zN σ4 (zQv (fun σ9 => (Fix σ9) ∧ ZC X (rX9_put zN) mX9_put [(2, (p4 + 1)), (1, 0)] zN σ9 (zQv (fun σ12 => (Fix σ12) ∧ (0 ≤ x3) ∧ (x3 < 8) ∧ ZC X (rX9_addTimes zN) mX9_addTimes [(2, (p4 + 1)), (2, 20), (0, ((σ12 (p2 + 4) x3) - (σ4 (p2 + 4) (σ4 12 0))))] zN σ12 (zQv (fun σ17 => Z X (rX2_tellOff zN) mX2_tellOff 80 [(2, 11), (2, 16), (9, 0), (9, 0), (2, p4), (2, (p2 + 4)), (0, (σ4 (p2 + 4) (σ4 12 0))), (0, 1)] [] zN σ17 (zQv T)))))))) ∧ ((r3 = false) → T σ4))))) : ZC X (rX2_tellOff zN) mX2_tellOff [(2, 11), (2, 16), (2, p2), (0, x3), (2, p4)] zN σ (zQv T) := by
  show Z X _ _ 0 [(2, 11), (2, 16), (2, p2), (0, x3), (2, p4), (9, 0), (9, 0), (9, 0)] [] _ σ _
  refine Z_aload_n 2 dX2_tellOff_0 rfl rfl ?_
  obtain ⟨g1, h⟩ := h
  refine Z_get (T := TX7) (N := 3) (ci := 7) (t := 2) 1 dX2_tellOff_1 hp2 (z_leN hp2 (by decide)) rfl (by decide) inX7 (by decide) (flX2_91 rfl) rfl ?_
  refine Z_top (y := (p2 + 4)) (Fix.get g1 hp2 1 4 (by decide +kernel)) ?_
  refine Z_astore (L' := [(2, 11), (2, 16), (2, p2), (0, x3), (2, p4), (2, (p2 + 4)), (9, 0), (9, 0)]) dX2_tellOff_4 (Nat.le_of_ble_eq_true rfl) rfl ?_
  refine Z_aload_n 0 dX2_tellOff_6 rfl rfl ?_
  refine Z_get (T := TX2) (N := 6) (ci := 2) (t := 0) 4 dX2_tellOff_7 la_11 (z_leN la_11 (by decide)) rfl (by decide) inX2 (by decide) (flX2_24 rfl) rfl ?_
  refine Z_iconst dX2_tellOff_10 ?_
  obtain ⟨g2, h⟩ := h
  refine Z_icmp_lt (tgt := 25) dX2_tellOff_11 (by decide) g2 ⟨by decide, by decide⟩ (fun c => ?_) (fun c => ?_)
  · replace h := h.1 c
    exact Z_return dX2_tellOff_25 rfl rfl ⟨rfl, h⟩
  · replace h := h.2 c
    refine Z_aload_n 2 dX2_tellOff_14 rfl rfl ?_
    refine Z_get (T := TX7) (N := 3) (ci := 7) (t := 2) 0 dX2_tellOff_15 hp2 (z_leN hp2 (by decide)) rfl (by decide) inX7 (by decide) (flX2_54 rfl) rfl ?_
    refine Z_top (y := (p2 + 1)) (Fix.get g1 hp2 0 1 (by decide +kernel)) ?_
    refine Z_iload_n 3 dX2_tellOff_18 rfl rfl ?_
    refine Z_invV (T := TX6) (N := 3) (ci := 6) (M' := mX6_has) (ρ' := rX6_has zN) (st := []) [(0, x3)] dX2_tellOff_19 rfl rfl (zo_7_0 hp2) (z_leN (zo_7_0 hp2) (by decide)) (by decide) rfl rfl (kX6_has.cl (Nat.le_of_ble_eq_true rfl) (Nat.le_refl _) (Nat.le_refl _) (Nat.le_of_ble_eq_true rfl) (Nat.le_of_ble_eq_true rfl) (Nat.le_of_ble_eq_true rfl)) (mlX2_94 rfl) iX6_has sX6_has h (z_kz (fun r3 σ4 h => ?_))
    refine Z_zif_ne (tgt := 26) dX2_tellOff_22 (by decide) (fun c => ?_) (fun c => ?_)
    · replace h := h.1 c
      refine Z_aload dX2_tellOff_26 rfl ?_
      refine Z_aload_n 0 dX2_tellOff_28 rfl rfl ?_
      obtain ⟨g5, h⟩ := h
      refine Z_get (T := TX2) (N := 6) (ci := 2) (t := 2) 0 dX2_tellOff_29 la_11 (z_leN la_11 (by decide)) rfl (by decide) inX2 (by decide) (flX2_9 rfl) rfl ?_
      refine Z_top (y := 12) ((Fix.get g5 la_11 0 1 (by decide +kernel)).trans (by clear h; omega)) ?_
      refine Z_iconst dX2_tellOff_32 ?_
      refine Z_iald dX2_tellOff_33 la_12 (z_leN la_12 (by decide)) (by decide) (by decide) ?_
      obtain ⟨g6, h⟩ := h
      obtain ⟨g7, h⟩ := h
      refine Z_iald dX2_tellOff_34 (zo_7_1 hp2) (z_leN (zo_7_1 hp2) (by decide)) g6 g7 ?_
      refine Z_istore (L' := [(2, 11), (2, 16), (2, p2), (0, x3), (2, p4), (2, (p2 + 4)), (0, (σ4 (p2 + 4) (σ4 12 0))), (9, 0)]) dX2_tellOff_35 (Nat.le_of_ble_eq_true rfl) rfl ?_
      refine Z_aload dX2_tellOff_37 rfl ?_
      refine Z_get (T := TX3) (N := 2) (ci := 3) (t := 2) 1 dX2_tellOff_39 hp4 (z_leN hp4 (by decide)) rfl (by decide) inX3 (by decide) (flX2_98 rfl) rfl ?_
      refine Z_top (y := (p4 + 3)) (Fix.get g5 hp4 1 3 (by decide +kernel)) ?_
      refine Z_aload_n 1 dX2_tellOff_42 rfl rfl ?_
      refine Z_get (T := TX4) (N := 6) (ci := 4) (t := 2) 2 dX2_tellOff_43 la_16 (z_leN la_16 (by decide)) rfl (by decide) inX4 (by decide) (flX2_104 rfl) rfl ?_
      refine Z_top (y := 20) ((Fix.get g5 la_16 2 4 (by decide +kernel)).trans (by clear h; omega)) ?_
      refine Z_invV (T := TX9) (N := 3) (ci := 9) (M' := mX9_copyFrom) (ρ' := rX9_copyFrom zN) (st := []) [(2, 20)] dX2_tellOff_46 rfl rfl (zo_3_1 hp4) (z_leN (zo_3_1 hp4) (by decide)) (by decide) rfl rfl (kX9_copyFrom.cl (Nat.le_of_ble_eq_true rfl) (Nat.le_refl _) (Nat.le_refl _) (Nat.le_of_ble_eq_true rfl) (Nat.le_of_ble_eq_true rfl) (Nat.le_of_ble_eq_true rfl)) (mlX2_105 rfl) iX9_copyFrom sX9_copyFrom h (z_kv (fun σ9 h => ?_))
      refine Z_aload dX2_tellOff_49 rfl ?_
      obtain ⟨g10, h⟩ := h
      refine Z_get (T := TX3) (N := 2) (ci := 3) (t := 2) 0 dX2_tellOff_51 hp4 (z_leN hp4 (by decide)) rfl (by decide) inX3 (by decide) (flX2_111 rfl) rfl ?_
      refine Z_top (y := (p4 + 1)) (Fix.get g10 hp4 0 1 (by decide +kernel)) ?_
      refine Z_lconst (x := 0) dX2_tellOff_54 rfl ?_
      refine Z_invV (T := TX9) (N := 3) (ci := 9) (M' := mX9_put) (ρ' := rX9_put zN) (st := []) [(1, 0)] dX2_tellOff_55 rfl rfl (zo_3_0 hp4) (z_leN (zo_3_0 hp4) (by decide)) (by decide) rfl rfl (kX9_put.cl (Nat.le_of_ble_eq_true rfl) (Nat.le_refl _) (Nat.le_refl _) (Nat.le_of_ble_eq_true rfl) (Nat.le_of_ble_eq_true rfl) (Nat.le_of_ble_eq_true rfl)) (mlX2_114 rfl) iX9_put sX9_put h (z_kv (fun σ12 h => ?_))
      refine Z_aload dX2_tellOff_58 rfl ?_
      obtain ⟨g13, h⟩ := h
      refine Z_get (T := TX3) (N := 2) (ci := 3) (t := 2) 0 dX2_tellOff_60 hp4 (z_leN hp4 (by decide)) rfl (by decide) inX3 (by decide) (flX2_111 rfl) rfl ?_
      refine Z_top (y := (p4 + 1)) (Fix.get g13 hp4 0 1 (by decide +kernel)) ?_
      refine Z_aload_n 1 dX2_tellOff_63 rfl rfl ?_
      refine Z_get (T := TX4) (N := 6) (ci := 4) (t := 2) 2 dX2_tellOff_64 la_16 (z_leN la_16 (by decide)) rfl (by decide) inX4 (by decide) (flX2_104 rfl) rfl ?_
      refine Z_top (y := 20) ((Fix.get g13 la_16 2 4 (by decide +kernel)).trans (by clear h; omega)) ?_
      refine Z_aload dX2_tellOff_67 rfl ?_
      refine Z_iload_n 3 dX2_tellOff_69 rfl rfl ?_
      obtain ⟨g14, h⟩ := h
      obtain ⟨g15, h⟩ := h
      refine Z_iald dX2_tellOff_70 (zo_7_1 hp2) (z_leN (zo_7_1 hp2) (by decide)) g14 g15 ?_
      refine Z_iload dX2_tellOff_71 rfl ?_
      refine Z_isub dX2_tellOff_73 ?_
      refine Z_invV (T := TX9) (N := 3) (ci := 9) (M' := mX9_addTimes) (ρ' := rX9_addTimes zN) (st := []) [(2, 20), (0, ((σ12 (p2 + 4) x3) - (σ4 (p2 + 4) (σ4 12 0))))] dX2_tellOff_74 rfl rfl (zo_3_0 hp4) (z_leN (zo_3_0 hp4) (by decide)) (by decide) rfl rfl (kX9_addTimes.cl (Nat.le_of_ble_eq_true rfl) (Nat.le_refl _) (Nat.le_refl _) (Nat.le_of_ble_eq_true rfl) (Nat.le_of_ble_eq_true rfl) (Nat.le_of_ble_eq_true rfl)) (mlX2_117 rfl) iX9_addTimes sX9_addTimes h (z_kv (fun σ17 h => ?_))
      refine Z_iconst dX2_tellOff_77 ?_
      refine Z_istore (L' := [(2, 11), (2, 16), (2, p2), (0, x3), (2, p4), (2, (p2 + 4)), (0, (σ4 (p2 + 4) (σ4 12 0))), (0, 1)]) dX2_tellOff_78 (Nat.le_of_ble_eq_true rfl) rfl ?_
      exact Z_few (z_few_k (z_few_k (z_few_d (z_few_d (z_few_k (z_few_k (z_few_k (z_few_k z_few_0)))))))) h
    · replace h := h.2 c
      exact Z_return dX2_tellOff_25 rfl rfl ⟨rfl, h⟩
theorem bk_X2_tellOff_80 {X : ZS} {σ : ZM} {T : ZM → Prop} {p4 : Int} (hp4 : z_l p4 = (3, 2)) {p5 : Int} (hp5 : z_l p5 = (20, 8)) {x6 : Int} {x7 : Int} (h : (r32 x7) ∧ (r32 (σ 11 4)) ∧ (((σ 11 4) ≤ x7) → T σ) ∧ ((¬ ((σ 11 4) ≤ x7)) → (Fix σ) ∧ ZC X (rX4_cell zN) mX4_cell [(2, 16), (0, (x7 - 1)), (0, ((σ 11 4) - 1))] zN σ (zQa (fun r4 σ5 => (Fix σ5) ∧ (0 ≤ x7) ∧ (x7 < 8) ∧ (0 ≤ (σ5 12 x7)) ∧ ((σ5 12 x7) < 8) ∧ ZC X (rX9_addTimes zN) mX9_addTimes [(2, (p4 + 1)), (2, r4), (0, (x6 - (σ5 p5 (σ5 12 x7))))] zN σ5 (zQv (fun σ12 => Z X (rX2_tellOff zN) mX2_tellOff 80 [(2, 11), (2, 16), (9, 0), (9, 0), (2, p4), (2, p5), (0, x6), (0, (x7 + 1))] [] zN σ12 (zQv T))))))) : Z X (rX2_tellOff zN) mX2_tellOff 80 [(2, 11), (2, 16), (9, 0), (9, 0), (2, p4), (2, p5), (0, x6), (0, x7)] [] zN σ (zQv T) := by
  refine Z_iload dX2_tellOff_80 rfl ?_
  refine Z_aload_n 0 dX2_tellOff_82 rfl rfl ?_
  refine Z_get (T := TX2) (N := 6) (ci := 2) (t := 0) 4 dX2_tellOff_83 la_11 (z_leN la_11 (by decide)) rfl (by decide) inX2 (by decide) (flX2_24 rfl) rfl ?_
  obtain ⟨g1, h⟩ := h
  obtain ⟨g2, h⟩ := h
  refine Z_icmp_ge (tgt := 130) dX2_tellOff_86 (by decide) g1 g2 (fun c => ?_) (fun c => ?_)
  · replace h := h.1 c
    exact Z_return dX2_tellOff_130 rfl rfl ⟨rfl, h⟩
  · replace h := h.2 c
    refine Z_aload dX2_tellOff_89 rfl ?_
    obtain ⟨g3, h⟩ := h
    refine Z_get (T := TX3) (N := 2) (ci := 3) (t := 2) 0 dX2_tellOff_91 hp4 (z_leN hp4 (by decide)) rfl (by decide) inX3 (by decide) (flX2_111 rfl) rfl ?_
    refine Z_top (y := (p4 + 1)) (Fix.get g3 hp4 0 1 (by decide +kernel)) ?_
    refine Z_aload_n 1 dX2_tellOff_94 rfl rfl ?_
    refine Z_iload dX2_tellOff_95 rfl ?_
    refine Z_iconst dX2_tellOff_97 ?_
    refine Z_isub dX2_tellOff_98 ?_
    refine Z_aload_n 0 dX2_tellOff_99 rfl rfl ?_
    refine Z_get (T := TX2) (N := 6) (ci := 2) (t := 0) 4 dX2_tellOff_100 la_11 (z_leN la_11 (by decide)) rfl (by decide) inX2 (by decide) (flX2_24 rfl) rfl ?_
    refine Z_iconst dX2_tellOff_103 ?_
    refine Z_isub dX2_tellOff_104 ?_
    refine Z_invV (T := TX4) (N := 6) (ci := 4) (M' := mX4_cell) (ρ' := rX4_cell zN) (st := [(2, (p4 + 1))]) [(0, (x7 - 1)), (0, ((σ 11 4) - 1))] dX2_tellOff_105 rfl rfl la_16 (z_leN la_16 (by decide)) (by decide) rfl rfl (kX4_cell.cl (Nat.le_of_ble_eq_true rfl) (Nat.le_refl _) (Nat.le_refl _) (Nat.le_of_ble_eq_true rfl) (Nat.le_of_ble_eq_true rfl) (Nat.le_of_ble_eq_true rfl)) (mlX2_121 rfl) iX4_cell sX4_cell h (z_ka (fun r4 σ5 h => ?_))
    refine Z_iload dX2_tellOff_108 rfl ?_
    refine Z_aload dX2_tellOff_110 rfl ?_
    refine Z_aload_n 0 dX2_tellOff_112 rfl rfl ?_
    obtain ⟨g6, h⟩ := h
    refine Z_get (T := TX2) (N := 6) (ci := 2) (t := 2) 0 dX2_tellOff_113 la_11 (z_leN la_11 (by decide)) rfl (by decide) inX2 (by decide) (flX2_9 rfl) rfl ?_
    refine Z_top (y := 12) ((Fix.get g6 la_11 0 1 (by decide +kernel)).trans (by clear h; omega)) ?_
    refine Z_iload dX2_tellOff_116 rfl ?_
    obtain ⟨g7, h⟩ := h
    obtain ⟨g8, h⟩ := h
    refine Z_iald dX2_tellOff_118 la_12 (z_leN la_12 (by decide)) g7 g8 ?_
    obtain ⟨g9, h⟩ := h
    obtain ⟨g10, h⟩ := h
    refine Z_iald dX2_tellOff_119 hp5 (z_leN hp5 (by decide)) g9 g10 ?_
    refine Z_isub dX2_tellOff_120 ?_
    refine Z_invV (T := TX9) (N := 3) (ci := 9) (M' := mX9_addTimes) (ρ' := rX9_addTimes zN) (st := []) [(2, r4), (0, (x6 - (σ5 p5 (σ5 12 x7))))] dX2_tellOff_121 rfl rfl (zo_3_0 hp4) (z_leN (zo_3_0 hp4) (by decide)) (by decide) rfl rfl (kX9_addTimes.cl (Nat.le_of_ble_eq_true rfl) (Nat.le_refl _) (Nat.le_refl _) (Nat.le_of_ble_eq_true rfl) (Nat.le_of_ble_eq_true rfl) (Nat.le_of_ble_eq_true rfl)) (mlX2_117 rfl) iX9_addTimes sX9_addTimes h (z_kv (fun σ12 h => ?_))
    refine Z_iinc (L' := [(2, 11), (2, 16), (9, 0), (9, 0), (2, p4), (2, p5), (0, x6), (0, (x7 + 1))]) dX2_tellOff_124 rfl (Nat.le_of_ble_eq_true rfl) rfl ?_
    refine Z_goto (tgt := 80) dX2_tellOff_127 (by decide) ?_
    exact Z_few (z_few_k (z_few_k (z_few_k (z_few_k (z_few_k (z_few_k (z_few_k (z_few_k z_few_0)))))))) h
theorem bk_X4_init {X : ZS} {n : Nat} {n1 : Nat} {σ : ZM} {T : ZM → Prop} {p0 : Int} (hp0 : z_l p0 = (4, 6)) (h : (z_l ((n + 1 : Nat) : Int) = (23, 56)) ∧ (n + 1 ≤ n1) ∧ (p0.toNat ≤ (n + 1)) ∧ (z_l (((n + 1) + 1 : Nat) : Int) = (9, 3)) ∧ ((n + 1) + 1 ≤ n1) ∧ ((((n + 1) + 1 : Nat) : Int).toNat ≤ ((n + 1) + 1)) ∧ ((((n + 1) + 1) + 1) ≤ n1) ∧ ZC X (rX9_init (((n + 1) + 1) + 1)) mX9_init [(2, (((n + 1) + 1 : Nat) : Int))] ((n + 1) + 1) (z_new (z_up (z_new σ ((n + 1 : Nat) : Int)) p0 0 ((n + 1 : Nat) : Int)) (((n + 1) + 1 : Nat) : Int)) (zQv (fun σ9 => (p0.toNat ≤ (((n + 1) + 1) + 1)) ∧ (z_l (((((n + 1) + 1) + 1) + 1 : Nat) : Int) = (9, 3)) ∧ ((((n + 1) + 1) + 1) + 1 ≤ n1) ∧ ((((((n + 1) + 1) + 1) + 1 : Nat) : Int).toNat ≤ ((((n + 1) + 1) + 1) + 1)) ∧ ((((((n + 1) + 1) + 1) + 1) + 1) ≤ n1) ∧ ZC X (rX9_init (((((n + 1) + 1) + 1) + 1) + 1)) mX9_init [(2, (((((n + 1) + 1) + 1) + 1 : Nat) : Int))] ((((n + 1) + 1) + 1) + 1) (z_new (z_up σ9 p0 1 (((n + 1) + 1 : Nat) : Int)) (((((n + 1) + 1) + 1) + 1 : Nat) : Int)) (zQv (fun σ17 => (p0.toNat ≤ (((((n + 1) + 1) + 1) + 1) + 1)) ∧ (z_l (((((((n + 1) + 1) + 1) + 1) + 1) + 1 : Nat) : Int) = (9, 3)) ∧ ((((((n + 1) + 1) + 1) + 1) + 1) + 1 ≤ n1) ∧ ((((((((n + 1) + 1) + 1) + 1) + 1) + 1 : Nat) : Int).toNat ≤ ((((((n + 1) + 1) + 1) + 1) + 1) + 1)) ∧ ((((((((n + 1) + 1) + 1) + 1) + 1) + 1) + 1) ≤ n1) ∧ ZC X (rX9_init (((((((n + 1) + 1) + 1) + 1) + 1) + 1) + 1)) mX9_init [(2, (((((((n + 1) + 1) + 1) + 1) + 1) + 1 : Nat) : Int))] ((((((n + 1) + 1) + 1) + 1) + 1) + 1) (z_new (z_up σ17 p0 2 (((((n + 1) + 1) + 1) + 1 : Nat) : Int)) (((((((n + 1) + 1) + 1) + 1) + 1) + 1 : Nat) : Int)) (zQv (fun σ25 => (p0.toNat ≤ (((((((n + 1) + 1) + 1) + 1) + 1) + 1) + 1)) ∧ (z_l (((((((((n + 1) + 1) + 1) + 1) + 1) + 1) + 1) + 1 : Nat) : Int) = (9, 3)) ∧ ((((((((n + 1) + 1) + 1) + 1) + 1) + 1) + 1) + 1 ≤ n1) ∧ ((((((((((n + 1) + 1) + 1) + 1) + 1) + 1) + 1) + 1 : Nat) : Int).toNat ≤ ((((((((n + 1) + 1) + 1) + 1) + 1) + 1) + 1) + 1)) ∧ ((((((((((n + 1) + 1) + 1) + 1) + 1) + 1) + 1) + 1) + 1) ≤ n1) ∧ ZC X (rX9_init (((((((((n + 1) + 1) + 1) + 1) + 1) + 1) + 1) + 1) + 1)) mX9_init [(2, (((((((((n + 1) + 1) + 1) + 1) + 1) + 1) + 1) + 1 : Nat) : Int))] ((((((((n + 1) + 1) + 1) + 1) + 1) + 1) + 1) + 1) (z_new (z_up σ25 p0 3 (((((((n + 1) + 1) + 1) + 1) + 1) + 1 : Nat) : Int)) (((((((((n + 1) + 1) + 1) + 1) + 1) + 1) + 1) + 1 : Nat) : Int)) (zQv (fun σ33 => (p0.toNat ≤ (((((((((n + 1) + 1) + 1) + 1) + 1) + 1) + 1) + 1) + 1)) ∧ (z_l (((((((((((n + 1) + 1) + 1) + 1) + 1) + 1) + 1) + 1) + 1) + 1 : Nat) : Int) = (1, 4)) ∧ ((((((((((n + 1) + 1) + 1) + 1) + 1) + 1) + 1) + 1) + 1) + 1 ≤ n1) ∧ ((((((((((((n + 1) + 1) + 1) + 1) + 1) + 1) + 1) + 1) + 1) + 1 : Nat) : Int).toNat ≤ ((((((((((n + 1) + 1) + 1) + 1) + 1) + 1) + 1) + 1) + 1) + 1)) ∧ ((((((((((((n + 1) + 1) + 1) + 1) + 1) + 1) + 1) + 1) + 1) + 1) + 2) ≤ n1) ∧ ZC X (rX1_init (((((((((((n + 1) + 1) + 1) + 1) + 1) + 1) + 1) + 1) + 1) + 1) + 2)) mX1_init [(2, (((((((((((n + 1) + 1) + 1) + 1) + 1) + 1) + 1) + 1) + 1) + 1 : Nat) : Int))] ((((((((((n + 1) + 1) + 1) + 1) + 1) + 1) + 1) + 1) + 1) + 1) (z_new (z_up σ33 p0 4 (((((((((n + 1) + 1) + 1) + 1) + 1) + 1) + 1) + 1 : Nat) : Int)) (((((((((((n + 1) + 1) + 1) + 1) + 1) + 1) + 1) + 1) + 1) + 1 : Nat) : Int)) (zQv (fun σ41 => (p0.toNat ≤ (((((((((((n + 1) + 1) + 1) + 1) + 1) + 1) + 1) + 1) + 1) + 1) + 2)) ∧ Z X (rX4_init n1) mX4_init 70 [(2, p0), (0, 0)] [] (((((((((((n + 1) + 1) + 1) + 1) + 1) + 1) + 1) + 1) + 1) + 1) + 2) (z_up σ41 p0 5 (((((((((((n + 1) + 1) + 1) + 1) + 1) + 1) + 1) + 1) + 1) + 1 : Nat) : Int)) (zQv T)))))))))))) : ZC X (rX4_init n1) mX4_init [(2, p0)] n σ (zQv T) := by
  show Z X _ _ 0 [(2, p0), (9, 0)] [] _ σ _
  refine Z_aload_n 0 dX4_init_0 rfl rfl ?_
  refine Z_objInit dX4_init_1 ((z_l_pos (by rw [hp0]; decide)).1) mlX4_3 ob_i ob_c (Nat.le_of_ble_eq_true rfl) (Nat.le_of_ble_eq_true rfl) (Nat.le_of_ble_eq_true rfl) ?_
  refine Z_aload_n 0 dX4_init_4 rfl rfl ?_
  refine Z_bipush dX4_init_5 (by decide) ?_
  obtain ⟨g1, h⟩ := h
  obtain ⟨g2, h⟩ := h
  refine Z_newR dX4_init_7 ao_W clX4_11 g1 rfl g2 ?_
  obtain ⟨g3, h⟩ := h
  refine Z_put (T := TX4) (N := 6) (ci := 4) (t := 2) tyX4 0 dX4_init_10 hp0 g3 rfl (by decide) inX4 (by decide) (plX4_13 rfl rfl) rfl tyX4_ok nmX4 rfl (z_nf_a _ _) ?_
  refine Z_aload_n 0 dX4_init_13 rfl rfl ?_
  obtain ⟨g4, h⟩ := h
  obtain ⟨g5, h⟩ := h
  refine Z_newO (T := TX9) (N := 3) (ci := 9) tyX9 dX4_init_14 rfl (by decide) inX9 tyX9_ok df_9 clX4_11 in_X9 iz_X9 g4 g5 ?_
  refine Z_dup dX4_init_17 (by simp) ?_
  obtain ⟨g6, h⟩ := h
  obtain ⟨g10, h⟩ := h
  refine Z_invI (M' := mX9_init) (ρ' := rX9_init (((n + 1) + 1) + 1)) (st := [(2, (((n + 1) + 1 : Nat) : Int)), (2, p0)]) [] dX4_init_18 rfl ((z_l_pos (by rw [g4]; decide)).1) rfl rfl rfl (kX9_init.cl (Nat.le_of_ble_eq_true rfl) (Nat.le_add_right _ _) g10 (Nat.le_of_ble_eq_true rfl) (Nat.le_of_ble_eq_true rfl) (Nat.le_of_ble_eq_true rfl)) (mlX4_17 rfl) iX9_init h (z_kv (fun σ9 h => ?_))
  obtain ⟨g11, h⟩ := h
  refine Z_put (T := TX4) (N := 6) (ci := 4) (t := 2) tyX4 1 dX4_init_21 hp0 g11 rfl (by decide) inX4 (by decide) (plX4_18 rfl rfl) rfl tyX4_ok nmX4 rfl (z_nf_o _ _) ?_
  refine Z_aload_n 0 dX4_init_24 rfl rfl ?_
  obtain ⟨g12, h⟩ := h
  obtain ⟨g13, h⟩ := h
  refine Z_newO (T := TX9) (N := 3) (ci := 9) tyX9 dX4_init_25 rfl (by decide) inX9 tyX9_ok df_9 clX4_11 in_X9 iz_X9 g12 g13 ?_
  refine Z_dup dX4_init_28 (by simp) ?_
  obtain ⟨g14, h⟩ := h
  obtain ⟨g18, h⟩ := h
  refine Z_invI (M' := mX9_init) (ρ' := rX9_init (((((n + 1) + 1) + 1) + 1) + 1)) (st := [(2, (((((n + 1) + 1) + 1) + 1 : Nat) : Int)), (2, p0)]) [] dX4_init_29 rfl ((z_l_pos (by rw [g12]; decide)).1) rfl rfl rfl (kX9_init.cl (Nat.le_of_ble_eq_true rfl) (Nat.le_add_right _ _) g18 (Nat.le_of_ble_eq_true rfl) (Nat.le_of_ble_eq_true rfl) (Nat.le_of_ble_eq_true rfl)) (mlX4_17 rfl) iX9_init h (z_kv (fun σ17 h => ?_))
  obtain ⟨g19, h⟩ := h
  refine Z_put (T := TX4) (N := 6) (ci := 4) (t := 2) tyX4 2 dX4_init_32 hp0 g19 rfl (by decide) inX4 (by decide) (plX4_22 rfl rfl) rfl tyX4_ok nmX4 rfl (z_nf_o _ _) ?_
  refine Z_aload_n 0 dX4_init_35 rfl rfl ?_
  obtain ⟨g20, h⟩ := h
  obtain ⟨g21, h⟩ := h
  refine Z_newO (T := TX9) (N := 3) (ci := 9) tyX9 dX4_init_36 rfl (by decide) inX9 tyX9_ok df_9 clX4_11 in_X9 iz_X9 g20 g21 ?_
  refine Z_dup dX4_init_39 (by simp) ?_
  obtain ⟨g22, h⟩ := h
  obtain ⟨g26, h⟩ := h
  refine Z_invI (M' := mX9_init) (ρ' := rX9_init (((((((n + 1) + 1) + 1) + 1) + 1) + 1) + 1)) (st := [(2, (((((((n + 1) + 1) + 1) + 1) + 1) + 1 : Nat) : Int)), (2, p0)]) [] dX4_init_40 rfl ((z_l_pos (by rw [g20]; decide)).1) rfl rfl rfl (kX9_init.cl (Nat.le_of_ble_eq_true rfl) (Nat.le_add_right _ _) g26 (Nat.le_of_ble_eq_true rfl) (Nat.le_of_ble_eq_true rfl) (Nat.le_of_ble_eq_true rfl)) (mlX4_17 rfl) iX9_init h (z_kv (fun σ25 h => ?_))
  obtain ⟨g27, h⟩ := h
  refine Z_put (T := TX4) (N := 6) (ci := 4) (t := 2) tyX4 3 dX4_init_43 hp0 g27 rfl (by decide) inX4 (by decide) (plX4_25 rfl rfl) rfl tyX4_ok nmX4 rfl (z_nf_o _ _) ?_
  refine Z_aload_n 0 dX4_init_46 rfl rfl ?_
  obtain ⟨g28, h⟩ := h
  obtain ⟨g29, h⟩ := h
  refine Z_newO (T := TX9) (N := 3) (ci := 9) tyX9 dX4_init_47 rfl (by decide) inX9 tyX9_ok df_9 clX4_11 in_X9 iz_X9 g28 g29 ?_
  refine Z_dup dX4_init_50 (by simp) ?_
  obtain ⟨g30, h⟩ := h
  obtain ⟨g34, h⟩ := h
  refine Z_invI (M' := mX9_init) (ρ' := rX9_init (((((((((n + 1) + 1) + 1) + 1) + 1) + 1) + 1) + 1) + 1)) (st := [(2, (((((((((n + 1) + 1) + 1) + 1) + 1) + 1) + 1) + 1 : Nat) : Int)), (2, p0)]) [] dX4_init_51 rfl ((z_l_pos (by rw [g28]; decide)).1) rfl rfl rfl (kX9_init.cl (Nat.le_of_ble_eq_true rfl) (Nat.le_add_right _ _) g34 (Nat.le_of_ble_eq_true rfl) (Nat.le_of_ble_eq_true rfl) (Nat.le_of_ble_eq_true rfl)) (mlX4_17 rfl) iX9_init h (z_kv (fun σ33 h => ?_))
  obtain ⟨g35, h⟩ := h
  refine Z_put (T := TX4) (N := 6) (ci := 4) (t := 2) tyX4 4 dX4_init_54 hp0 g35 rfl (by decide) inX4 (by decide) (plX4_28 rfl rfl) rfl tyX4_ok nmX4 rfl (z_nf_o _ _) ?_
  refine Z_aload_n 0 dX4_init_57 rfl rfl ?_
  obtain ⟨g36, h⟩ := h
  obtain ⟨g37, h⟩ := h
  refine Z_newO (T := TX1) (N := 4) (ci := 1) tyX1 dX4_init_58 rfl (by decide) inX1 tyX1_ok df_1 clX4_31 in_X1 iz_X1 g36 g37 ?_
  refine Z_dup dX4_init_61 (by simp) ?_
  obtain ⟨g38, h⟩ := h
  obtain ⟨g42, h⟩ := h
  refine Z_invI (M' := mX1_init) (ρ' := rX1_init (((((((((((n + 1) + 1) + 1) + 1) + 1) + 1) + 1) + 1) + 1) + 1) + 2)) (st := [(2, (((((((((((n + 1) + 1) + 1) + 1) + 1) + 1) + 1) + 1) + 1) + 1 : Nat) : Int)), (2, p0)]) [] dX4_init_62 rfl ((z_l_pos (by rw [g36]; decide)).1) rfl rfl rfl (kX1_init.cl (Nat.le_of_ble_eq_true rfl) (Nat.le_add_right _ _) g42 (Nat.le_of_ble_eq_true rfl) (Nat.le_of_ble_eq_true rfl) (Nat.le_of_ble_eq_true rfl)) (mlX4_33 rfl) iX1_init h (z_kv (fun σ41 h => ?_))
  obtain ⟨g43, h⟩ := h
  refine Z_put (T := TX4) (N := 6) (ci := 4) (t := 2) tyX4 5 dX4_init_65 hp0 g43 rfl (by decide) inX4 (by decide) (plX4_34 rfl rfl) rfl tyX4_ok nmX4 rfl (z_nf_o _ _) ?_
  refine Z_iconst dX4_init_68 ?_
  refine Z_istore_n (L' := [(2, p0), (0, 0)]) 1 dX4_init_69 rfl (Nat.le_of_ble_eq_true rfl) rfl ?_
  exact Z_few (z_few_k (z_few_k z_few_0)) h
theorem bk_X4_init_70 {X : ZS} {n : Nat} {n1 : Nat} {σ : ZM} {T : ZM → Prop} {p0 : Int} (hp0 : z_l p0 = (4, 6)) {x1 : Int} (h : (p0.toNat ≤ n) ∧ (σ p0 0 = (p0 + 1)) ∧ ((p0 + 1).toNat ≤ n) ∧ (r32 x1) ∧ ((56 ≤ x1) → (n = n1) ∧ T σ) ∧ ((¬ (56 ≤ x1)) → (z_l ((n + 1 : Nat) : Int) = (9, 3)) ∧ (n + 1 ≤ n1) ∧ (((n + 1 : Nat) : Int).toNat ≤ (n + 1)) ∧ (((n + 1) + 1) ≤ n1) ∧ ZC X (rX9_init ((n + 1) + 1)) mX9_init [(2, ((n + 1 : Nat) : Int))] (n + 1) (z_new σ ((n + 1 : Nat) : Int)) (zQv (fun σ11 => ((p0 + 1).toNat ≤ ((n + 1) + 1)) ∧ (0 ≤ x1) ∧ (x1 < 56) ∧ (((n + 1 : Nat) : Int).toNat ≤ ((n + 1) + 1)) ∧ Z X (rX4_init n1) mX4_init 70 [(2, p0), (0, (x1 + 1))] [] ((n + 1) + 1) (z_up σ11 (p0 + 1) x1 ((n + 1 : Nat) : Int)) (zQv T))))) : Z X (rX4_init n1) mX4_init 70 [(2, p0), (0, x1)] [] n σ (zQv T) := by
  refine Z_iload_n 1 dX4_init_70 rfl rfl ?_
  refine Z_aload_n 0 dX4_init_71 rfl rfl ?_
  obtain ⟨g1, h⟩ := h
  obtain ⟨g2, h⟩ := h
  refine Z_get (T := TX4) (N := 6) (ci := 4) (t := 2) 0 dX4_init_72 hp0 g1 rfl (by decide) inX4 (by decide) (flX4_13 rfl) rfl ?_
  refine Z_top g2 ?_
  obtain ⟨g3, h⟩ := h
  refine Z_alen dX4_init_75 (zo_4_0 hp0) (by decide) g3 ?_
  obtain ⟨g4, h⟩ := h
  refine Z_icmp_ge (tgt := 98) dX4_init_76 (by decide) g4 ⟨by decide, by decide⟩ (fun c => ?_) (fun c => ?_)
  · replace h := h.1 c
    obtain ⟨g5, h⟩ := h
    exact Z_return dX4_init_98 rfl g5 ⟨rfl, h⟩
  · replace h := h.2 c
    refine Z_aload_n 0 dX4_init_79 rfl rfl ?_
    refine Z_get (T := TX4) (N := 6) (ci := 4) (t := 2) 0 dX4_init_80 hp0 g1 rfl (by decide) inX4 (by decide) (flX4_13 rfl) rfl ?_
    refine Z_top g2 ?_
    refine Z_iload_n 1 dX4_init_83 rfl rfl ?_
    obtain ⟨g6, h⟩ := h
    obtain ⟨g7, h⟩ := h
    refine Z_newO (T := TX9) (N := 3) (ci := 9) tyX9 dX4_init_84 rfl (by decide) inX9 tyX9_ok df_9 clX4_11 in_X9 iz_X9 g6 g7 ?_
    refine Z_dup dX4_init_87 (by simp) ?_
    obtain ⟨g8, h⟩ := h
    obtain ⟨g12, h⟩ := h
    refine Z_invI (M' := mX9_init) (ρ' := rX9_init ((n + 1) + 1)) (st := [(2, ((n + 1 : Nat) : Int)), (0, x1), (2, (p0 + 1))]) [] dX4_init_88 rfl ((z_l_pos (by rw [g6]; decide)).1) rfl rfl rfl (kX9_init.cl (Nat.le_of_ble_eq_true rfl) (Nat.le_add_right _ _) g12 (Nat.le_of_ble_eq_true rfl) (Nat.le_of_ble_eq_true rfl) (Nat.le_of_ble_eq_true rfl)) (mlX4_17 rfl) iX9_init h (z_kv (fun σ11 h => ?_))
    obtain ⟨g13, h⟩ := h
    obtain ⟨g14, h⟩ := h
    obtain ⟨g15, h⟩ := h
    obtain ⟨g16, h⟩ := h
    refine Z_aast dX4_init_91 (zo_4_0 hp0) g13 g14 g15 g6 g16 ?_
    refine Z_iinc (L' := [(2, p0), (0, (x1 + 1))]) dX4_init_92 rfl (Nat.le_of_ble_eq_true rfl) rfl ?_
    refine Z_goto (tgt := 70) dX4_init_95 (by decide) ?_
    exact Z_few (z_few_k (z_few_k z_few_0)) h
theorem bk_X4_cell {X : ZS} {σ : ZM} {T : Int → ZM → Prop} {x1 : Int} {x2 : Int} (h : (r32 x1) ∧ ((x1 < 0) → (Fix σ) ∧ T 18 σ) ∧ ((¬ (x1 < 0)) → ((7 ≤ x1) → (Fix σ) ∧ T 18 σ) ∧ ((¬ (7 ≤ x1)) → (r32 x2) ∧ ((x2 < 0) → (Fix σ) ∧ T 18 σ) ∧ ((¬ (x2 < 0)) → ((8 ≤ x2) → (Fix σ) ∧ T 18 σ) ∧ ((¬ (8 ≤ x2)) → (Fix σ) ∧ (0 ≤ ((x1 * 8) + x2)) ∧ (((x1 * 8) + x2) < 56) ∧ T (σ 17 ((x1 * 8) + x2)) σ))))) : ZC X (rX4_cell zN) mX4_cell [(2, 16), (0, x1), (0, x2)] zN σ (zQa T) := by
  show Z X _ _ 0 [(2, 16), (0, x1), (0, x2), (9, 0)] [] _ σ _
  refine Z_iload_n 1 dX4_cell_0 rfl rfl ?_
  obtain ⟨g1, h⟩ := h
  refine Z_if_lt (tgt := 24) dX4_cell_1 (by decide) g1 (fun c => ?_) (fun c => ?_)
  · replace h := h.1 c
    refine Z_iconst dX4_cell_24 ?_
    refine Z_istore_n (L' := [(2, 16), (0, x1), (0, x2), (0, 0)]) 3 dX4_cell_25 rfl (Nat.le_of_ble_eq_true rfl) rfl ?_
    refine Z_iload_n 3 dX4_cell_26 rfl rfl ?_
    refine Z_if_eq (tgt := 44) dX4_cell_27 (by decide) ⟨by decide, by decide⟩ (fun c => ?_) (fun c => absurd c (by decide))
    refine Z_aload_n 0 dX4_cell_44 rfl rfl ?_
    obtain ⟨g2, h⟩ := h
    refine Z_get (T := TX4) (N := 6) (ci := 4) (t := 2) 1 dX4_cell_45 la_16 (z_leN la_16 (by decide)) rfl (by decide) inX4 (by decide) (flX4_18 rfl) rfl ?_
    refine Z_top (y := 18) ((Fix.get g2 la_16 1 2 (by decide +kernel)).trans (by clear h; omega)) ?_
    exact Z_areturn dX4_cell_48 rfl rfl ⟨rfl, h⟩
  · replace h := h.2 c
    refine Z_iload_n 1 dX4_cell_4 rfl rfl ?_
    refine Z_bipush dX4_cell_5 (by decide) ?_
    refine Z_icmp_ge (tgt := 24) dX4_cell_7 (by decide) g1 ⟨by decide, by decide⟩ (fun c => ?_) (fun c => ?_)
    · replace h := h.1 c
      refine Z_iconst dX4_cell_24 ?_
      refine Z_istore_n (L' := [(2, 16), (0, x1), (0, x2), (0, 0)]) 3 dX4_cell_25 rfl (Nat.le_of_ble_eq_true rfl) rfl ?_
      refine Z_iload_n 3 dX4_cell_26 rfl rfl ?_
      refine Z_if_eq (tgt := 44) dX4_cell_27 (by decide) ⟨by decide, by decide⟩ (fun c => ?_) (fun c => absurd c (by decide))
      refine Z_aload_n 0 dX4_cell_44 rfl rfl ?_
      obtain ⟨g3, h⟩ := h
      refine Z_get (T := TX4) (N := 6) (ci := 4) (t := 2) 1 dX4_cell_45 la_16 (z_leN la_16 (by decide)) rfl (by decide) inX4 (by decide) (flX4_18 rfl) rfl ?_
      refine Z_top (y := 18) ((Fix.get g3 la_16 1 2 (by decide +kernel)).trans (by clear h; omega)) ?_
      exact Z_areturn dX4_cell_48 rfl rfl ⟨rfl, h⟩
    · replace h := h.2 c
      refine Z_iload_n 2 dX4_cell_10 rfl rfl ?_
      obtain ⟨g4, h⟩ := h
      refine Z_if_lt (tgt := 24) dX4_cell_11 (by decide) g4 (fun c => ?_) (fun c => ?_)
      · replace h := h.1 c
        refine Z_iconst dX4_cell_24 ?_
        refine Z_istore_n (L' := [(2, 16), (0, x1), (0, x2), (0, 0)]) 3 dX4_cell_25 rfl (Nat.le_of_ble_eq_true rfl) rfl ?_
        refine Z_iload_n 3 dX4_cell_26 rfl rfl ?_
        refine Z_if_eq (tgt := 44) dX4_cell_27 (by decide) ⟨by decide, by decide⟩ (fun c => ?_) (fun c => absurd c (by decide))
        refine Z_aload_n 0 dX4_cell_44 rfl rfl ?_
        obtain ⟨g5, h⟩ := h
        refine Z_get (T := TX4) (N := 6) (ci := 4) (t := 2) 1 dX4_cell_45 la_16 (z_leN la_16 (by decide)) rfl (by decide) inX4 (by decide) (flX4_18 rfl) rfl ?_
        refine Z_top (y := 18) ((Fix.get g5 la_16 1 2 (by decide +kernel)).trans (by clear h; omega)) ?_
        exact Z_areturn dX4_cell_48 rfl rfl ⟨rfl, h⟩
      · replace h := h.2 c
        refine Z_iload_n 2 dX4_cell_14 rfl rfl ?_
        refine Z_bipush dX4_cell_15 (by decide) ?_
        refine Z_icmp_ge (tgt := 24) dX4_cell_17 (by decide) g4 ⟨by decide, by decide⟩ (fun c => ?_) (fun c => ?_)
        · replace h := h.1 c
          refine Z_iconst dX4_cell_24 ?_
          refine Z_istore_n (L' := [(2, 16), (0, x1), (0, x2), (0, 0)]) 3 dX4_cell_25 rfl (Nat.le_of_ble_eq_true rfl) rfl ?_
          refine Z_iload_n 3 dX4_cell_26 rfl rfl ?_
          refine Z_if_eq (tgt := 44) dX4_cell_27 (by decide) ⟨by decide, by decide⟩ (fun c => ?_) (fun c => absurd c (by decide))
          refine Z_aload_n 0 dX4_cell_44 rfl rfl ?_
          obtain ⟨g6, h⟩ := h
          refine Z_get (T := TX4) (N := 6) (ci := 4) (t := 2) 1 dX4_cell_45 la_16 (z_leN la_16 (by decide)) rfl (by decide) inX4 (by decide) (flX4_18 rfl) rfl ?_
          refine Z_top (y := 18) ((Fix.get g6 la_16 1 2 (by decide +kernel)).trans (by clear h; omega)) ?_
          exact Z_areturn dX4_cell_48 rfl rfl ⟨rfl, h⟩
        · replace h := h.2 c
          refine Z_iconst dX4_cell_20 ?_
          refine Z_goto (tgt := 25) dX4_cell_21 (by decide) ?_
          refine Z_istore_n (L' := [(2, 16), (0, x1), (0, x2), (0, 1)]) 3 dX4_cell_25 rfl (Nat.le_of_ble_eq_true rfl) rfl ?_
          refine Z_iload_n 3 dX4_cell_26 rfl rfl ?_
          refine Z_if_eq (tgt := 44) dX4_cell_27 (by decide) ⟨by decide, by decide⟩ (fun c => absurd c (by decide)) (fun c => ?_)
          refine Z_aload_n 0 dX4_cell_30 rfl rfl ?_
          obtain ⟨g7, h⟩ := h
          refine Z_get (T := TX4) (N := 6) (ci := 4) (t := 2) 0 dX4_cell_31 la_16 (z_leN la_16 (by decide)) rfl (by decide) inX4 (by decide) (flX4_13 rfl) rfl ?_
          refine Z_top (y := 17) ((Fix.get g7 la_16 0 1 (by decide +kernel)).trans (by clear h; omega)) ?_
          refine Z_iload_n 1 dX4_cell_34 rfl rfl ?_
          refine Z_bipush dX4_cell_35 (by decide) ?_
          refine Z_imul dX4_cell_37 ?_
          refine Z_iload_n 2 dX4_cell_38 rfl rfl ?_
          refine Z_iadd dX4_cell_39 ?_
          obtain ⟨g8, h⟩ := h
          obtain ⟨g9, h⟩ := h
          refine Z_aald dX4_cell_40 la_17 (z_leN la_17 (by decide)) g8 g9 ?_
          refine Z_goto (tgt := 48) dX4_cell_41 (by decide) ?_
          exact Z_areturn dX4_cell_48 rfl rfl ⟨rfl, h⟩
theorem bk_X4_put {X : ZS} {σ : ZM} {T : ZM → Prop} {x1 : Int} {x2 : Int} {x3 : Int} (h : ZC X (rX4_cell zN) mX4_cell [(2, 16), (0, x1), (0, x2)] zN σ (zQa (fun r1 σ2 => (z_l r1 = (9, 3)) ∧ ZC X (rX9_put zN) mX9_put [(2, r1), (1, x3)] zN σ2 (zQv (fun σ5 => T σ5))))) : ZC X (rX4_put zN) mX4_put [(2, 16), (0, x1), (0, x2), (1, x3)] zN σ (zQv T) := by
  show Z X _ _ 0 [(2, 16), (0, x1), (0, x2), (1, x3), (9, 0)] [] _ σ _
  refine Z_aload_n 0 dX4_put_0 rfl rfl ?_
  refine Z_iload_n 1 dX4_put_1 rfl rfl ?_
  refine Z_iload_n 2 dX4_put_2 rfl rfl ?_
  refine Z_invV (T := TX4) (N := 6) (ci := 4) (M' := mX4_cell) (ρ' := rX4_cell zN) (st := []) [(0, x1), (0, x2)] dX4_put_3 rfl rfl la_16 (z_leN la_16 (by decide)) (by decide) rfl rfl (kX4_cell.cl (Nat.le_of_ble_eq_true rfl) (Nat.le_refl _) (Nat.le_refl _) (Nat.le_of_ble_eq_true rfl) (Nat.le_of_ble_eq_true rfl) (Nat.le_of_ble_eq_true rfl)) (mlX4_38 rfl) iX4_cell sX4_cell h (z_ka (fun r1 σ2 h => ?_))
  refine Z_lload_n 3 dX4_put_6 rfl rfl ?_
  obtain ⟨g3, h⟩ := h
  refine Z_invV (T := TX9) (N := 3) (ci := 9) (M' := mX9_put) (ρ' := rX9_put zN) (st := []) [(1, x3)] dX4_put_7 rfl rfl g3 (z_leN g3 (by decide)) (by decide) rfl rfl (kX9_put.cl (Nat.le_of_ble_eq_true rfl) (Nat.le_refl _) (Nat.le_refl _) (Nat.le_of_ble_eq_true rfl) (Nat.le_of_ble_eq_true rfl) (Nat.le_of_ble_eq_true rfl)) (mlX4_42 rfl) iX9_put sX9_put h (z_kv (fun σ5 h => ?_))
  exact Z_return dX4_put_10 rfl rfl ⟨rfl, h⟩
theorem bk_X4_solve {X : ZS} {σ : ZM} {T : Bool → ZM → Prop} {x1 : Int} (h : (Fix σ) ∧ ZC X (rX9_put zN) mX9_put [(2, 20), (1, 1)] zN σ (zQv (fun σ3 => Z X (rX4_solve zN) mX4_solve 10 [(2, 16), (0, x1), (0, 0)] [] zN σ3 (zQz T)))) : ZC X (rX4_solve zN) mX4_solve [(2, 16), (0, x1)] zN σ (zQz T) := by
  show Z X _ _ 0 [(2, 16), (0, x1), (9, 0)] [] _ σ _
  refine Z_aload_n 0 dX4_solve_0 rfl rfl ?_
  obtain ⟨g1, h⟩ := h
  refine Z_get (T := TX4) (N := 6) (ci := 4) (t := 2) 2 dX4_solve_1 la_16 (z_leN la_16 (by decide)) rfl (by decide) inX4 (by decide) (flX4_22 rfl) rfl ?_
  refine Z_top (y := 20) ((Fix.get g1 la_16 2 4 (by decide +kernel)).trans (by clear h; omega)) ?_
  refine Z_lconst (x := 1) dX4_solve_4 rfl ?_
  refine Z_invV (T := TX9) (N := 3) (ci := 9) (M' := mX9_put) (ρ' := rX9_put zN) (st := []) [(1, 1)] dX4_solve_5 rfl rfl la_20 (z_leN la_20 (by decide)) (by decide) rfl rfl (kX9_put.cl (Nat.le_of_ble_eq_true rfl) (Nat.le_refl _) (Nat.le_refl _) (Nat.le_of_ble_eq_true rfl) (Nat.le_of_ble_eq_true rfl) (Nat.le_of_ble_eq_true rfl)) (mlX4_42 rfl) iX9_put sX9_put h (z_kv (fun σ3 h => ?_))
  refine Z_iconst dX4_solve_8 ?_
  refine Z_istore_n (L' := [(2, 16), (0, x1), (0, 0)]) 2 dX4_solve_9 rfl (Nat.le_of_ble_eq_true rfl) rfl ?_
  exact Z_few (z_few_k (z_few_k (z_few_k z_few_0))) h
theorem bk_X4_solve_10 {X : ZS} {σ : ZM} {T : Bool → ZM → Prop} {x1 : Int} {x2 : Int} (h : (r32 x2) ∧ (r32 x1) ∧ ((x1 ≤ x2) → T true σ) ∧ ((¬ (x1 ≤ x2)) → ZC X (rX4_bringPivot zN) mX4_bringPivot [(2, 16), (0, x2), (0, x1)] zN σ (zQz (fun r3 σ4 => ((r3 = true) → ZC X (rX4_clearColumn zN) mX4_clearColumn [(2, 16), (0, x2), (0, 0), (0, x1), (0, (x1 + 1))] zN σ4 (zQv (fun σ6 => (Fix σ6) ∧ ZC X (rX4_cell zN) mX4_cell [(2, 16), (0, x2), (0, x2)] zN σ6 (zQa (fun r8 σ9 => ZC X (rX9_copyFrom zN) mX9_copyFrom [(2, 20), (2, r8)] zN σ9 (zQv (fun σ11 => Z X (rX4_solve zN) mX4_solve 10 [(2, 16), (0, x1), (0, (x2 + 1))] [] zN σ11 (zQz T)))))))) ∧ ((r3 = false) → T false σ4))))) : Z X (rX4_solve zN) mX4_solve 10 [(2, 16), (0, x1), (0, x2)] [] zN σ (zQz T) := by
  refine Z_iload_n 2 dX4_solve_10 rfl rfl ?_
  refine Z_iload_n 1 dX4_solve_11 rfl rfl ?_
  obtain ⟨g1, h⟩ := h
  obtain ⟨g2, h⟩ := h
  refine Z_icmp_ge (tgt := 55) dX4_solve_12 (by decide) g1 g2 (fun c => ?_) (fun c => ?_)
  · replace h := h.1 c
    refine Z_iconst dX4_solve_55 ?_
    exact Z_zreturn dX4_solve_56 rfl (Or.inr rfl) rfl ⟨rfl, true, rfl, h⟩
  · replace h := h.2 c
    refine Z_aload_n 0 dX4_solve_15 rfl rfl ?_
    refine Z_iload_n 2 dX4_solve_16 rfl rfl ?_
    refine Z_iload_n 1 dX4_solve_17 rfl rfl ?_
    refine Z_invV (T := TX4) (N := 6) (ci := 4) (M' := mX4_bringPivot) (ρ' := rX4_bringPivot zN) (st := []) [(0, x2), (0, x1)] dX4_solve_18 rfl rfl la_16 (z_leN la_16 (by decide)) (by decide) rfl rfl (kX4_bringPivot.cl (Nat.le_of_ble_eq_true rfl) (Nat.le_refl _) (Nat.le_refl _) (Nat.le_of_ble_eq_true rfl) (Nat.le_of_ble_eq_true rfl) (Nat.le_of_ble_eq_true rfl)) (mlX4_46 rfl) iX4_bringPivot sX4_bringPivot h (z_kz (fun r3 σ4 h => ?_))
    refine Z_zif_ne (tgt := 26) dX4_solve_21 (by decide) (fun c => ?_) (fun c => ?_)
    · replace h := h.1 c
      refine Z_aload_n 0 dX4_solve_26 rfl rfl ?_
      refine Z_iload_n 2 dX4_solve_27 rfl rfl ?_
      refine Z_iconst dX4_solve_28 ?_
      refine Z_iload_n 1 dX4_solve_29 rfl rfl ?_
      refine Z_iload_n 1 dX4_solve_30 rfl rfl ?_
      refine Z_iconst dX4_solve_31 ?_
      refine Z_iadd dX4_solve_32 ?_
      refine Z_invV (T := TX4) (N := 6) (ci := 4) (M' := mX4_clearColumn) (ρ' := rX4_clearColumn zN) (st := []) [(0, x2), (0, 0), (0, x1), (0, (x1 + 1))] dX4_solve_33 rfl rfl la_16 (z_leN la_16 (by decide)) (by decide) rfl rfl (kX4_clearColumn.cl (Nat.le_of_ble_eq_true rfl) (Nat.le_refl _) (Nat.le_refl _) (Nat.le_of_ble_eq_true rfl) (Nat.le_of_ble_eq_true rfl) (Nat.le_of_ble_eq_true rfl)) (mlX4_50 rfl) iX4_clearColumn sX4_clearColumn h (z_kv (fun σ6 h => ?_))
      refine Z_aload_n 0 dX4_solve_36 rfl rfl ?_
      obtain ⟨g7, h⟩ := h
      refine Z_get (T := TX4) (N := 6) (ci := 4) (t := 2) 2 dX4_solve_37 la_16 (z_leN la_16 (by decide)) rfl (by decide) inX4 (by decide) (flX4_22 rfl) rfl ?_
      refine Z_top (y := 20) ((Fix.get g7 la_16 2 4 (by decide +kernel)).trans (by clear h; omega)) ?_
      refine Z_aload_n 0 dX4_solve_40 rfl rfl ?_
      refine Z_iload_n 2 dX4_solve_41 rfl rfl ?_
      refine Z_iload_n 2 dX4_solve_42 rfl rfl ?_
      refine Z_invV (T := TX4) (N := 6) (ci := 4) (M' := mX4_cell) (ρ' := rX4_cell zN) (st := [(2, 20)]) [(0, x2), (0, x2)] dX4_solve_43 rfl rfl la_16 (z_leN la_16 (by decide)) (by decide) rfl rfl (kX4_cell.cl (Nat.le_of_ble_eq_true rfl) (Nat.le_refl _) (Nat.le_refl _) (Nat.le_of_ble_eq_true rfl) (Nat.le_of_ble_eq_true rfl) (Nat.le_of_ble_eq_true rfl)) (mlX4_38 rfl) iX4_cell sX4_cell h (z_ka (fun r8 σ9 h => ?_))
      refine Z_invV (T := TX9) (N := 3) (ci := 9) (M' := mX9_copyFrom) (ρ' := rX9_copyFrom zN) (st := []) [(2, r8)] dX4_solve_46 rfl rfl la_20 (z_leN la_20 (by decide)) (by decide) rfl rfl (kX9_copyFrom.cl (Nat.le_of_ble_eq_true rfl) (Nat.le_refl _) (Nat.le_refl _) (Nat.le_of_ble_eq_true rfl) (Nat.le_of_ble_eq_true rfl) (Nat.le_of_ble_eq_true rfl)) (mlX4_54 rfl) iX9_copyFrom sX9_copyFrom h (z_kv (fun σ11 h => ?_))
      refine Z_iinc (L' := [(2, 16), (0, x1), (0, (x2 + 1))]) dX4_solve_49 rfl (Nat.le_of_ble_eq_true rfl) rfl ?_
      refine Z_goto (tgt := 10) dX4_solve_52 (by decide) ?_
      exact Z_few (z_few_k (z_few_k (z_few_k z_few_0))) h
    · replace h := h.2 c
      refine Z_iconst dX4_solve_24 ?_
      exact Z_zreturn dX4_solve_25 rfl (Or.inl rfl) rfl ⟨rfl, false, rfl, h⟩
theorem bk_X4_judge {X : ZS} {σ : ZM} {T : Int → ZM → Prop} {x1 : Int} (h : (Fix σ) ∧ ZC X (rX9_put zN) mX9_put [(2, 20), (1, 1)] zN σ (zQv (fun σ3 => Z X (rX4_judge zN) mX4_judge 12 [(2, 16), (0, x1), (0, 2), (0, 0), (9, 0)] [] zN σ3 (zQi T)))) : ZC X (rX4_judge zN) mX4_judge [(2, 16), (0, x1)] zN σ (zQi T) := by
  show Z X _ _ 0 [(2, 16), (0, x1), (9, 0), (9, 0), (9, 0)] [] _ σ _
  refine Z_aload_n 0 dX4_judge_0 rfl rfl ?_
  obtain ⟨g1, h⟩ := h
  refine Z_get (T := TX4) (N := 6) (ci := 4) (t := 2) 2 dX4_judge_1 la_16 (z_leN la_16 (by decide)) rfl (by decide) inX4 (by decide) (flX4_22 rfl) rfl ?_
  refine Z_top (y := 20) ((Fix.get g1 la_16 2 4 (by decide +kernel)).trans (by clear h; omega)) ?_
  refine Z_lconst (x := 1) dX4_judge_4 rfl ?_
  refine Z_invV (T := TX9) (N := 3) (ci := 9) (M' := mX9_put) (ρ' := rX9_put zN) (st := []) [(1, 1)] dX4_judge_5 rfl rfl la_20 (z_leN la_20 (by decide)) (by decide) rfl rfl (kX9_put.cl (Nat.le_of_ble_eq_true rfl) (Nat.le_refl _) (Nat.le_refl _) (Nat.le_of_ble_eq_true rfl) (Nat.le_of_ble_eq_true rfl) (Nat.le_of_ble_eq_true rfl)) (mlX4_42 rfl) iX9_put sX9_put h (z_kv (fun σ3 h => ?_))
  refine Z_iconst dX4_judge_8 ?_
  refine Z_istore_n (L' := [(2, 16), (0, x1), (0, 2), (9, 0), (9, 0)]) 2 dX4_judge_9 rfl (Nat.le_of_ble_eq_true rfl) rfl ?_
  refine Z_iconst dX4_judge_10 ?_
  refine Z_istore_n (L' := [(2, 16), (0, x1), (0, 2), (0, 0), (9, 0)]) 3 dX4_judge_11 rfl (Nat.le_of_ble_eq_true rfl) rfl ?_
  exact Z_few (z_few_k (z_few_k (z_few_k (z_few_k (z_few_k z_few_0))))) h
theorem bk_X4_judge_12 {X : ZS} {σ : ZM} {T : Int → ZM → Prop} {x1 : Int} {x2 : Int} {x3 : Int} (h : (r32 x3) ∧ (r32 x1) ∧ ((x1 ≤ x3) → T x2 σ) ∧ ((¬ (x1 ≤ x3)) → ZC X (rX4_cell zN) mX4_cell [(2, 16), (0, x3), (0, x3)] zN σ (zQa (fun r3 σ4 => (z_l r3 = (9, 3)) ∧ (r32 (σ4 r3 2)) ∧ (((σ4 r3 2) < 0) → T 0 σ4) ∧ ((¬ ((σ4 r3 2) < 0)) → ((¬ (σ4 r3 2) = 0) → ((¬ (σ4 r3 2) = 0) → ZC X (rX4_clearColumn zN) mX4_clearColumn [(2, 16), (0, x3), (0, (x3 + 1)), (0, x1), (0, x1)] zN σ4 (zQv (fun σ8 => (Fix σ8) ∧ ZC X (rX4_cell zN) mX4_cell [(2, 16), (0, x3), (0, x3)] zN σ8 (zQa (fun r10 σ11 => ZC X (rX9_copyFrom zN) mX9_copyFrom [(2, 20), (2, r10)] zN σ11 (zQv (fun σ13 => Z X (rX4_judge zN) mX4_judge 12 [(2, 16), (0, x1), (0, x2), (0, (x3 + 1)), (9, 0)] [] zN σ13 (zQi T)))))))) ∧ (((σ4 r3 2) = 0) → Z X (rX4_judge zN) mX4_judge 12 [(2, 16), (0, x1), (0, 1), (0, (x3 + 1)), (9, 0)] [] zN σ4 (zQi T))) ∧ (((σ4 r3 2) = 0) → ZC X (rX4_isZeroBehind zN) mX4_isZeroBehind [(2, 16), (0, x3), (0, x1)] zN σ4 (zQz (fun r14 σ15 => ((r14 = true) → ((¬ (σ4 r3 2) = 0) → ZC X (rX4_clearColumn zN) mX4_clearColumn [(2, 16), (0, x3), (0, (x3 + 1)), (0, x1), (0, x1)] zN σ15 (zQv (fun σ17 => (Fix σ17) ∧ ZC X (rX4_cell zN) mX4_cell [(2, 16), (0, x3), (0, x3)] zN σ17 (zQa (fun r19 σ20 => ZC X (rX9_copyFrom zN) mX9_copyFrom [(2, 20), (2, r19)] zN σ20 (zQv (fun σ22 => Z X (rX4_judge zN) mX4_judge 12 [(2, 16), (0, x1), (0, x2), (0, (x3 + 1)), (9, 0)] [] zN σ22 (zQi T)))))))) ∧ (((σ4 r3 2) = 0) → Z X (rX4_judge zN) mX4_judge 12 [(2, 16), (0, x1), (0, 1), (0, (x3 + 1)), (9, 0)] [] zN σ15 (zQi T))) ∧ ((r14 = false) → T 0 σ15))))))))) : Z X (rX4_judge zN) mX4_judge 12 [(2, 16), (0, x1), (0, x2), (0, x3), (9, 0)] [] zN σ (zQi T) := by
  refine Z_iload_n 3 dX4_judge_12 rfl rfl ?_
  refine Z_iload_n 1 dX4_judge_13 rfl rfl ?_
  obtain ⟨g1, h⟩ := h
  obtain ⟨g2, h⟩ := h
  refine Z_icmp_ge (tgt := 88) dX4_judge_14 (by decide) g1 g2 (fun c => ?_) (fun c => ?_)
  · replace h := h.1 c
    refine Z_iload_n 2 dX4_judge_88 rfl rfl ?_
    exact Z_ireturn dX4_judge_89 rfl rfl ⟨rfl, h⟩
  · replace h := h.2 c
    refine Z_aload_n 0 dX4_judge_17 rfl rfl ?_
    refine Z_iload_n 3 dX4_judge_18 rfl rfl ?_
    refine Z_iload_n 3 dX4_judge_19 rfl rfl ?_
    refine Z_invV (T := TX4) (N := 6) (ci := 4) (M' := mX4_cell) (ρ' := rX4_cell zN) (st := []) [(0, x3), (0, x3)] dX4_judge_20 rfl rfl la_16 (z_leN la_16 (by decide)) (by decide) rfl rfl (kX4_cell.cl (Nat.le_of_ble_eq_true rfl) (Nat.le_refl _) (Nat.le_refl _) (Nat.le_of_ble_eq_true rfl) (Nat.le_of_ble_eq_true rfl) (Nat.le_of_ble_eq_true rfl)) (mlX4_38 rfl) iX4_cell sX4_cell h (z_ka (fun r3 σ4 h => ?_))
    obtain ⟨g5, h⟩ := h
    refine Z_get (T := TX9) (N := 3) (ci := 9) (t := 0) 2 dX4_judge_23 g5 (z_leN g5 (by decide)) rfl (by decide) inX9 (by decide) (flX4_58 rfl) rfl ?_
    refine Z_istore (L' := [(2, 16), (0, x1), (0, x2), (0, x3), (0, (σ4 r3 2))]) dX4_judge_26 (Nat.le_of_ble_eq_true rfl) rfl ?_
    refine Z_iload dX4_judge_28 rfl ?_
    obtain ⟨g6, h⟩ := h
    refine Z_if_lt (tgt := 47) dX4_judge_30 (by decide) g6 (fun c => ?_) (fun c => ?_)
    · replace h := h.1 c
      refine Z_iconst dX4_judge_47 ?_
      exact Z_ireturn dX4_judge_48 rfl rfl ⟨rfl, h⟩
    · replace h := h.2 c
      refine Z_iload dX4_judge_33 rfl ?_
      refine Z_if_ne (tgt := 49) dX4_judge_35 (by decide) g6 (fun c => ?_) (fun c => ?_)
      · replace h := h.1 c
        refine Z_iload dX4_judge_49 rfl ?_
        refine Z_if_ne (tgt := 59) dX4_judge_51 (by decide) g6 (fun c => ?_) (fun c => ?_)
        · replace h := h.1 c
          refine Z_aload_n 0 dX4_judge_59 rfl rfl ?_
          refine Z_iload_n 3 dX4_judge_60 rfl rfl ?_
          refine Z_iload_n 3 dX4_judge_61 rfl rfl ?_
          refine Z_iconst dX4_judge_62 ?_
          refine Z_iadd dX4_judge_63 ?_
          refine Z_iload_n 1 dX4_judge_64 rfl rfl ?_
          refine Z_iload_n 1 dX4_judge_65 rfl rfl ?_
          refine Z_invV (T := TX4) (N := 6) (ci := 4) (M' := mX4_clearColumn) (ρ' := rX4_clearColumn zN) (st := []) [(0, x3), (0, (x3 + 1)), (0, x1), (0, x1)] dX4_judge_66 rfl rfl la_16 (z_leN la_16 (by decide)) (by decide) rfl rfl (kX4_clearColumn.cl (Nat.le_of_ble_eq_true rfl) (Nat.le_refl _) (Nat.le_refl _) (Nat.le_of_ble_eq_true rfl) (Nat.le_of_ble_eq_true rfl) (Nat.le_of_ble_eq_true rfl)) (mlX4_50 rfl) iX4_clearColumn sX4_clearColumn h (z_kv (fun σ8 h => ?_))
          refine Z_aload_n 0 dX4_judge_69 rfl rfl ?_
          obtain ⟨g9, h⟩ := h
          refine Z_get (T := TX4) (N := 6) (ci := 4) (t := 2) 2 dX4_judge_70 la_16 (z_leN la_16 (by decide)) rfl (by decide) inX4 (by decide) (flX4_22 rfl) rfl ?_
          refine Z_top (y := 20) ((Fix.get g9 la_16 2 4 (by decide +kernel)).trans (by clear h; omega)) ?_
          refine Z_aload_n 0 dX4_judge_73 rfl rfl ?_
          refine Z_iload_n 3 dX4_judge_74 rfl rfl ?_
          refine Z_iload_n 3 dX4_judge_75 rfl rfl ?_
          refine Z_invV (T := TX4) (N := 6) (ci := 4) (M' := mX4_cell) (ρ' := rX4_cell zN) (st := [(2, 20)]) [(0, x3), (0, x3)] dX4_judge_76 rfl rfl la_16 (z_leN la_16 (by decide)) (by decide) rfl rfl (kX4_cell.cl (Nat.le_of_ble_eq_true rfl) (Nat.le_refl _) (Nat.le_refl _) (Nat.le_of_ble_eq_true rfl) (Nat.le_of_ble_eq_true rfl) (Nat.le_of_ble_eq_true rfl)) (mlX4_38 rfl) iX4_cell sX4_cell h (z_ka (fun r10 σ11 h => ?_))
          refine Z_invV (T := TX9) (N := 3) (ci := 9) (M' := mX9_copyFrom) (ρ' := rX9_copyFrom zN) (st := []) [(2, r10)] dX4_judge_79 rfl rfl la_20 (z_leN la_20 (by decide)) (by decide) rfl rfl (kX9_copyFrom.cl (Nat.le_of_ble_eq_true rfl) (Nat.le_refl _) (Nat.le_refl _) (Nat.le_of_ble_eq_true rfl) (Nat.le_of_ble_eq_true rfl) (Nat.le_of_ble_eq_true rfl)) (mlX4_54 rfl) iX9_copyFrom sX9_copyFrom h (z_kv (fun σ13 h => ?_))
          refine Z_iinc (L' := [(2, 16), (0, x1), (0, x2), (0, (x3 + 1)), (0, (σ4 r3 2))]) dX4_judge_82 rfl (Nat.le_of_ble_eq_true rfl) rfl ?_
          refine Z_goto (tgt := 12) dX4_judge_85 (by decide) ?_
          exact Z_few (z_few_k (z_few_k (z_few_k (z_few_k (z_few_d z_few_0))))) h
        · replace h := h.2 c
          refine Z_iconst dX4_judge_54 ?_
          refine Z_istore_n (L' := [(2, 16), (0, x1), (0, 1), (0, x3), (0, (σ4 r3 2))]) 2 dX4_judge_55 rfl (Nat.le_of_ble_eq_true rfl) rfl ?_
          refine Z_goto (tgt := 82) dX4_judge_56 (by decide) ?_
          refine Z_iinc (L' := [(2, 16), (0, x1), (0, 1), (0, (x3 + 1)), (0, (σ4 r3 2))]) dX4_judge_82 rfl (Nat.le_of_ble_eq_true rfl) rfl ?_
          refine Z_goto (tgt := 12) dX4_judge_85 (by decide) ?_
          exact Z_few (z_few_k (z_few_k (z_few_k (z_few_k (z_few_d z_few_0))))) h
      · replace h := h.2 c
        refine Z_aload_n 0 dX4_judge_38 rfl rfl ?_
        refine Z_iload_n 3 dX4_judge_39 rfl rfl ?_
        refine Z_iload_n 1 dX4_judge_40 rfl rfl ?_
        refine Z_invV (T := TX4) (N := 6) (ci := 4) (M' := mX4_isZeroBehind) (ρ' := rX4_isZeroBehind zN) (st := []) [(0, x3), (0, x1)] dX4_judge_41 rfl rfl la_16 (z_leN la_16 (by decide)) (by decide) rfl rfl (kX4_isZeroBehind.cl (Nat.le_of_ble_eq_true rfl) (Nat.le_refl _) (Nat.le_refl _) (Nat.le_of_ble_eq_true rfl) (Nat.le_of_ble_eq_true rfl) (Nat.le_of_ble_eq_true rfl)) (mlX4_62 rfl) iX4_isZeroBehind sX4_isZeroBehind h (z_kz (fun r14 σ15 h => ?_))
        refine Z_zif_ne (tgt := 49) dX4_judge_44 (by decide) (fun c => ?_) (fun c => ?_)
        · replace h := h.1 c
          refine Z_iload dX4_judge_49 rfl ?_
          refine Z_if_ne (tgt := 59) dX4_judge_51 (by decide) g6 (fun c => ?_) (fun c => ?_)
          · replace h := h.1 c
            refine Z_aload_n 0 dX4_judge_59 rfl rfl ?_
            refine Z_iload_n 3 dX4_judge_60 rfl rfl ?_
            refine Z_iload_n 3 dX4_judge_61 rfl rfl ?_
            refine Z_iconst dX4_judge_62 ?_
            refine Z_iadd dX4_judge_63 ?_
            refine Z_iload_n 1 dX4_judge_64 rfl rfl ?_
            refine Z_iload_n 1 dX4_judge_65 rfl rfl ?_
            refine Z_invV (T := TX4) (N := 6) (ci := 4) (M' := mX4_clearColumn) (ρ' := rX4_clearColumn zN) (st := []) [(0, x3), (0, (x3 + 1)), (0, x1), (0, x1)] dX4_judge_66 rfl rfl la_16 (z_leN la_16 (by decide)) (by decide) rfl rfl (kX4_clearColumn.cl (Nat.le_of_ble_eq_true rfl) (Nat.le_refl _) (Nat.le_refl _) (Nat.le_of_ble_eq_true rfl) (Nat.le_of_ble_eq_true rfl) (Nat.le_of_ble_eq_true rfl)) (mlX4_50 rfl) iX4_clearColumn sX4_clearColumn h (z_kv (fun σ17 h => ?_))
            refine Z_aload_n 0 dX4_judge_69 rfl rfl ?_
            obtain ⟨g18, h⟩ := h
            refine Z_get (T := TX4) (N := 6) (ci := 4) (t := 2) 2 dX4_judge_70 la_16 (z_leN la_16 (by decide)) rfl (by decide) inX4 (by decide) (flX4_22 rfl) rfl ?_
            refine Z_top (y := 20) ((Fix.get g18 la_16 2 4 (by decide +kernel)).trans (by clear h; omega)) ?_
            refine Z_aload_n 0 dX4_judge_73 rfl rfl ?_
            refine Z_iload_n 3 dX4_judge_74 rfl rfl ?_
            refine Z_iload_n 3 dX4_judge_75 rfl rfl ?_
            refine Z_invV (T := TX4) (N := 6) (ci := 4) (M' := mX4_cell) (ρ' := rX4_cell zN) (st := [(2, 20)]) [(0, x3), (0, x3)] dX4_judge_76 rfl rfl la_16 (z_leN la_16 (by decide)) (by decide) rfl rfl (kX4_cell.cl (Nat.le_of_ble_eq_true rfl) (Nat.le_refl _) (Nat.le_refl _) (Nat.le_of_ble_eq_true rfl) (Nat.le_of_ble_eq_true rfl) (Nat.le_of_ble_eq_true rfl)) (mlX4_38 rfl) iX4_cell sX4_cell h (z_ka (fun r19 σ20 h => ?_))
            refine Z_invV (T := TX9) (N := 3) (ci := 9) (M' := mX9_copyFrom) (ρ' := rX9_copyFrom zN) (st := []) [(2, r19)] dX4_judge_79 rfl rfl la_20 (z_leN la_20 (by decide)) (by decide) rfl rfl (kX9_copyFrom.cl (Nat.le_of_ble_eq_true rfl) (Nat.le_refl _) (Nat.le_refl _) (Nat.le_of_ble_eq_true rfl) (Nat.le_of_ble_eq_true rfl) (Nat.le_of_ble_eq_true rfl)) (mlX4_54 rfl) iX9_copyFrom sX9_copyFrom h (z_kv (fun σ22 h => ?_))
            refine Z_iinc (L' := [(2, 16), (0, x1), (0, x2), (0, (x3 + 1)), (0, (σ4 r3 2))]) dX4_judge_82 rfl (Nat.le_of_ble_eq_true rfl) rfl ?_
            refine Z_goto (tgt := 12) dX4_judge_85 (by decide) ?_
            exact Z_few (z_few_k (z_few_k (z_few_k (z_few_k (z_few_d z_few_0))))) h
          · replace h := h.2 c
            refine Z_iconst dX4_judge_54 ?_
            refine Z_istore_n (L' := [(2, 16), (0, x1), (0, 1), (0, x3), (0, (σ4 r3 2))]) 2 dX4_judge_55 rfl (Nat.le_of_ble_eq_true rfl) rfl ?_
            refine Z_goto (tgt := 82) dX4_judge_56 (by decide) ?_
            refine Z_iinc (L' := [(2, 16), (0, x1), (0, 1), (0, (x3 + 1)), (0, (σ4 r3 2))]) dX4_judge_82 rfl (Nat.le_of_ble_eq_true rfl) rfl ?_
            refine Z_goto (tgt := 12) dX4_judge_85 (by decide) ?_
            exact Z_few (z_few_k (z_few_k (z_few_k (z_few_k (z_few_d z_few_0))))) h
        · replace h := h.2 c
          refine Z_iconst dX4_judge_47 ?_
          exact Z_ireturn dX4_judge_48 rfl rfl ⟨rfl, h⟩
theorem bk_X4_isZeroBehind {X : ZS} {σ : ZM} {T : Bool → ZM → Prop} {x1 : Int} {x2 : Int} (h : Z X (rX4_isZeroBehind zN) mX4_isZeroBehind 4 [(2, 16), (0, x1), (0, x2), (0, (x1 + 1))] [] zN σ (zQz T)) : ZC X (rX4_isZeroBehind zN) mX4_isZeroBehind [(2, 16), (0, x1), (0, x2)] zN σ (zQz T) := by
  show Z X _ _ 0 [(2, 16), (0, x1), (0, x2), (9, 0)] [] _ σ _
  refine Z_iload_n 1 dX4_isZeroBehind_0 rfl rfl ?_
  refine Z_iconst dX4_isZeroBehind_1 ?_
  refine Z_iadd dX4_isZeroBehind_2 ?_
  refine Z_istore_n (L' := [(2, 16), (0, x1), (0, x2), (0, (x1 + 1))]) 3 dX4_isZeroBehind_3 rfl (Nat.le_of_ble_eq_true rfl) rfl ?_
  exact Z_few (z_few_k (z_few_k (z_few_k (z_few_k z_few_0)))) h
theorem bk_X4_isZeroBehind_4 {X : ZS} {σ : ZM} {T : Bool → ZM → Prop} {x1 : Int} {x2 : Int} {x3 : Int} (h : (r32 x3) ∧ (r32 x2) ∧ ((x2 ≤ x3) → T true σ) ∧ ((¬ (x2 ≤ x3)) → ZC X (rX4_cell zN) mX4_cell [(2, 16), (0, x1), (0, x3)] zN σ (zQa (fun r3 σ4 => (z_l r3 = (9, 3)) ∧ (r32 (σ4 r3 2)) ∧ (((σ4 r3 2) = 0) → Z X (rX4_isZeroBehind zN) mX4_isZeroBehind 4 [(2, 16), (0, x1), (0, x2), (0, (x3 + 1))] [] zN σ4 (zQz T)) ∧ ((¬ (σ4 r3 2) = 0) → T false σ4))))) : Z X (rX4_isZeroBehind zN) mX4_isZeroBehind 4 [(2, 16), (0, x1), (0, x2), (0, x3)] [] zN σ (zQz T) := by
  refine Z_iload_n 3 dX4_isZeroBehind_4 rfl rfl ?_
  refine Z_iload_n 2 dX4_isZeroBehind_5 rfl rfl ?_
  obtain ⟨g1, h⟩ := h
  obtain ⟨g2, h⟩ := h
  refine Z_icmp_ge (tgt := 29) dX4_isZeroBehind_6 (by decide) g1 g2 (fun c => ?_) (fun c => ?_)
  · replace h := h.1 c
    refine Z_iconst dX4_isZeroBehind_29 ?_
    exact Z_zreturn dX4_isZeroBehind_30 rfl (Or.inr rfl) rfl ⟨rfl, true, rfl, h⟩
  · replace h := h.2 c
    refine Z_aload_n 0 dX4_isZeroBehind_9 rfl rfl ?_
    refine Z_iload_n 1 dX4_isZeroBehind_10 rfl rfl ?_
    refine Z_iload_n 3 dX4_isZeroBehind_11 rfl rfl ?_
    refine Z_invV (T := TX4) (N := 6) (ci := 4) (M' := mX4_cell) (ρ' := rX4_cell zN) (st := []) [(0, x1), (0, x3)] dX4_isZeroBehind_12 rfl rfl la_16 (z_leN la_16 (by decide)) (by decide) rfl rfl (kX4_cell.cl (Nat.le_of_ble_eq_true rfl) (Nat.le_refl _) (Nat.le_refl _) (Nat.le_of_ble_eq_true rfl) (Nat.le_of_ble_eq_true rfl) (Nat.le_of_ble_eq_true rfl)) (mlX4_38 rfl) iX4_cell sX4_cell h (z_ka (fun r3 σ4 h => ?_))
    obtain ⟨g5, h⟩ := h
    refine Z_get (T := TX9) (N := 3) (ci := 9) (t := 0) 2 dX4_isZeroBehind_15 g5 (z_leN g5 (by decide)) rfl (by decide) inX9 (by decide) (flX4_58 rfl) rfl ?_
    obtain ⟨g6, h⟩ := h
    refine Z_if_eq (tgt := 23) dX4_isZeroBehind_18 (by decide) g6 (fun c => ?_) (fun c => ?_)
    · replace h := h.1 c
      refine Z_iinc (L' := [(2, 16), (0, x1), (0, x2), (0, (x3 + 1))]) dX4_isZeroBehind_23 rfl (Nat.le_of_ble_eq_true rfl) rfl ?_
      refine Z_goto (tgt := 4) dX4_isZeroBehind_26 (by decide) ?_
      exact Z_few (z_few_k (z_few_k (z_few_k (z_few_k z_few_0)))) h
    · replace h := h.2 c
      refine Z_iconst dX4_isZeroBehind_21 ?_
      exact Z_zreturn dX4_isZeroBehind_22 rfl (Or.inl rfl) rfl ⟨rfl, false, rfl, h⟩
theorem bk_X4_bringPivot {X : ZS} {σ : ZM} {T : Bool → ZM → Prop} {x1 : Int} {x2 : Int} (h : Z X (rX4_bringPivot zN) mX4_bringPivot 5 [(2, 16), (0, x1), (0, x2), (0, (-1)), (0, x1), (9, 0)] [] zN σ (zQz T)) : ZC X (rX4_bringPivot zN) mX4_bringPivot [(2, 16), (0, x1), (0, x2)] zN σ (zQz T) := by
  show Z X _ _ 0 [(2, 16), (0, x1), (0, x2), (9, 0), (9, 0), (9, 0)] [] _ σ _
  refine Z_iconst dX4_bringPivot_0 ?_
  refine Z_istore_n (L' := [(2, 16), (0, x1), (0, x2), (0, (-1)), (9, 0), (9, 0)]) 3 dX4_bringPivot_1 rfl (Nat.le_of_ble_eq_true rfl) rfl ?_
  refine Z_iload_n 1 dX4_bringPivot_2 rfl rfl ?_
  refine Z_istore (L' := [(2, 16), (0, x1), (0, x2), (0, (-1)), (0, x1), (9, 0)]) dX4_bringPivot_3 (Nat.le_of_ble_eq_true rfl) rfl ?_
  exact Z_few (z_few_k (z_few_k (z_few_k (z_few_k (z_few_k (z_few_k z_few_0)))))) h
theorem bk_X4_bringPivot_5 {X : ZS} {σ : ZM} {T : Bool → ZM → Prop} {x1 : Int} {x2 : Int} {x3 : Int} {x4 : Int} (h : (r32 x4) ∧ (r32 x2) ∧ ((x2 ≤ x4) → (r32 x3) ∧ ((x3 = (-1)) → T false σ) ∧ ((¬ x3 = (-1)) → ((x3 < 7) → Z X (rX4_bringPivot zN) mX4_bringPivot 54 [(2, 16), (0, x1), (9, 0), (0, x3), (0, 0), (9, 0)] [] zN σ (zQz T)) ∧ ((¬ (x3 < 7)) → T false σ))) ∧ ((¬ (x2 ≤ x4)) → (r32 x3) ∧ ((¬ x3 = (-1)) → ((x3 = (-1)) → T false σ) ∧ ((¬ x3 = (-1)) → ((x3 < 7) → Z X (rX4_bringPivot zN) mX4_bringPivot 54 [(2, 16), (0, x1), (9, 0), (0, x3), (0, 0), (9, 0)] [] zN σ (zQz T)) ∧ ((¬ (x3 < 7)) → T false σ))) ∧ ((x3 = (-1)) → ZC X (rX4_cell zN) mX4_cell [(2, 16), (0, x4), (0, x1)] zN σ (zQa (fun r5 σ6 => (z_l r5 = (9, 3)) ∧ (r32 (σ6 r5 2)) ∧ (((σ6 r5 2) = 0) → Z X (rX4_bringPivot zN) mX4_bringPivot 5 [(2, 16), (0, x1), (0, x2), (0, x3), (0, (x4 + 1)), (9, 0)] [] zN σ6 (zQz T)) ∧ ((¬ (σ6 r5 2) = 0) → Z X (rX4_bringPivot zN) mX4_bringPivot 5 [(2, 16), (0, x1), (0, x2), (0, x4), (0, (x4 + 1)), (9, 0)] [] zN σ6 (zQz T))))))) : Z X (rX4_bringPivot zN) mX4_bringPivot 5 [(2, 16), (0, x1), (0, x2), (0, x3), (0, x4), (9, 0)] [] zN σ (zQz T) := by
  refine Z_iload dX4_bringPivot_5 rfl ?_
  refine Z_iload_n 2 dX4_bringPivot_7 rfl rfl ?_
  obtain ⟨g1, h⟩ := h
  obtain ⟨g2, h⟩ := h
  refine Z_icmp_ge (tgt := 38) dX4_bringPivot_8 (by decide) g1 g2 (fun c => ?_) (fun c => ?_)
  · replace h := h.1 c
    refine Z_iload_n 3 dX4_bringPivot_38 rfl rfl ?_
    refine Z_iconst dX4_bringPivot_39 ?_
    obtain ⟨g3, h⟩ := h
    refine Z_icmp_eq (tgt := 49) dX4_bringPivot_40 (by decide) g3 ⟨by decide, by decide⟩ (fun c => ?_) (fun c => ?_)
    · replace h := h.1 c
      refine Z_iconst dX4_bringPivot_49 ?_
      exact Z_zreturn dX4_bringPivot_50 rfl (Or.inl rfl) rfl ⟨rfl, false, rfl, h⟩
    · replace h := h.2 c
      refine Z_iload_n 3 dX4_bringPivot_43 rfl rfl ?_
      refine Z_bipush dX4_bringPivot_44 (by decide) ?_
      refine Z_icmp_lt (tgt := 51) dX4_bringPivot_46 (by decide) g3 ⟨by decide, by decide⟩ (fun c => ?_) (fun c => ?_)
      · replace h := h.1 c
        refine Z_iconst dX4_bringPivot_51 ?_
        refine Z_istore (L' := [(2, 16), (0, x1), (0, x2), (0, x3), (0, 0), (9, 0)]) dX4_bringPivot_52 (Nat.le_of_ble_eq_true rfl) rfl ?_
        exact Z_few (z_few_k (z_few_k (z_few_d (z_few_k (z_few_k (z_few_k z_few_0)))))) h
      · replace h := h.2 c
        refine Z_iconst dX4_bringPivot_49 ?_
        exact Z_zreturn dX4_bringPivot_50 rfl (Or.inl rfl) rfl ⟨rfl, false, rfl, h⟩
  · replace h := h.2 c
    refine Z_iload_n 3 dX4_bringPivot_11 rfl rfl ?_
    refine Z_iconst dX4_bringPivot_12 ?_
    obtain ⟨g4, h⟩ := h
    refine Z_icmp_ne (tgt := 38) dX4_bringPivot_13 (by decide) g4 ⟨by decide, by decide⟩ (fun c => ?_) (fun c => ?_)
    · replace h := h.1 c
      refine Z_iload_n 3 dX4_bringPivot_38 rfl rfl ?_
      refine Z_iconst dX4_bringPivot_39 ?_
      refine Z_icmp_eq (tgt := 49) dX4_bringPivot_40 (by decide) g4 ⟨by decide, by decide⟩ (fun c => ?_) (fun c => ?_)
      · replace h := h.1 c
        refine Z_iconst dX4_bringPivot_49 ?_
        exact Z_zreturn dX4_bringPivot_50 rfl (Or.inl rfl) rfl ⟨rfl, false, rfl, h⟩
      · replace h := h.2 c
        refine Z_iload_n 3 dX4_bringPivot_43 rfl rfl ?_
        refine Z_bipush dX4_bringPivot_44 (by decide) ?_
        refine Z_icmp_lt (tgt := 51) dX4_bringPivot_46 (by decide) g4 ⟨by decide, by decide⟩ (fun c => ?_) (fun c => ?_)
        · replace h := h.1 c
          refine Z_iconst dX4_bringPivot_51 ?_
          refine Z_istore (L' := [(2, 16), (0, x1), (0, x2), (0, x3), (0, 0), (9, 0)]) dX4_bringPivot_52 (Nat.le_of_ble_eq_true rfl) rfl ?_
          exact Z_few (z_few_k (z_few_k (z_few_d (z_few_k (z_few_k (z_few_k z_few_0)))))) h
        · replace h := h.2 c
          refine Z_iconst dX4_bringPivot_49 ?_
          exact Z_zreturn dX4_bringPivot_50 rfl (Or.inl rfl) rfl ⟨rfl, false, rfl, h⟩
    · replace h := h.2 c
      refine Z_aload_n 0 dX4_bringPivot_16 rfl rfl ?_
      refine Z_iload dX4_bringPivot_17 rfl ?_
      refine Z_iload_n 1 dX4_bringPivot_19 rfl rfl ?_
      refine Z_invV (T := TX4) (N := 6) (ci := 4) (M' := mX4_cell) (ρ' := rX4_cell zN) (st := []) [(0, x4), (0, x1)] dX4_bringPivot_20 rfl rfl la_16 (z_leN la_16 (by decide)) (by decide) rfl rfl (kX4_cell.cl (Nat.le_of_ble_eq_true rfl) (Nat.le_refl _) (Nat.le_refl _) (Nat.le_of_ble_eq_true rfl) (Nat.le_of_ble_eq_true rfl) (Nat.le_of_ble_eq_true rfl)) (mlX4_38 rfl) iX4_cell sX4_cell h (z_ka (fun r5 σ6 h => ?_))
      obtain ⟨g7, h⟩ := h
      refine Z_get (T := TX9) (N := 3) (ci := 9) (t := 0) 2 dX4_bringPivot_23 g7 (z_leN g7 (by decide)) rfl (by decide) inX9 (by decide) (flX4_58 rfl) rfl ?_
      obtain ⟨g8, h⟩ := h
      refine Z_if_eq (tgt := 32) dX4_bringPivot_26 (by decide) g8 (fun c => ?_) (fun c => ?_)
      · replace h := h.1 c
        refine Z_iinc (L' := [(2, 16), (0, x1), (0, x2), (0, x3), (0, (x4 + 1)), (9, 0)]) dX4_bringPivot_32 rfl (Nat.le_of_ble_eq_true rfl) rfl ?_
        refine Z_goto (tgt := 5) dX4_bringPivot_35 (by decide) ?_
        exact Z_few (z_few_k (z_few_k (z_few_k (z_few_k (z_few_k (z_few_k z_few_0)))))) h
      · replace h := h.2 c
        refine Z_iload dX4_bringPivot_29 rfl ?_
        refine Z_istore_n (L' := [(2, 16), (0, x1), (0, x2), (0, x4), (0, x4), (9, 0)]) 3 dX4_bringPivot_31 rfl (Nat.le_of_ble_eq_true rfl) rfl ?_
        refine Z_iinc (L' := [(2, 16), (0, x1), (0, x2), (0, x4), (0, (x4 + 1)), (9, 0)]) dX4_bringPivot_32 rfl (Nat.le_of_ble_eq_true rfl) rfl ?_
        refine Z_goto (tgt := 5) dX4_bringPivot_35 (by decide) ?_
        exact Z_few (z_few_k (z_few_k (z_few_k (z_few_k (z_few_k (z_few_k z_few_0)))))) h
theorem bk_X4_bringPivot_54 {X : ZS} {σ : ZM} {T : Bool → ZM → Prop} {x1 : Int} {x3 : Int} {x4 : Int} (h : (r32 x4) ∧ ((8 ≤ x4) → T true σ) ∧ ((¬ (8 ≤ x4)) → (Fix σ) ∧ (0 ≤ ((x1 * 8) + x4)) ∧ (((x1 * 8) + x4) < 56) ∧ (0 ≤ ((x3 * 8) + x4)) ∧ (((x3 * 8) + x4) < 56) ∧ (z_l (σ 17 ((x3 * 8) + x4)) = (9, 3)) ∧ (z_l (σ 17 ((x1 * 8) + x4)) = (9, 3)) ∧ Z X (rX4_bringPivot zN) mX4_bringPivot 54 [(2, 16), (0, x1), (9, 0), (0, x3), (0, (x4 + 1)), (9, 0)] [] zN (z_up (z_up σ 17 ((x1 * 8) + x4) (σ 17 ((x3 * 8) + x4))) 17 ((x3 * 8) + x4) (σ 17 ((x1 * 8) + x4))) (zQz T))) : Z X (rX4_bringPivot zN) mX4_bringPivot 54 [(2, 16), (0, x1), (9, 0), (0, x3), (0, x4), (9, 0)] [] zN σ (zQz T) := by
  refine Z_iload dX4_bringPivot_54 rfl ?_
  refine Z_bipush dX4_bringPivot_56 (by decide) ?_
  obtain ⟨g1, h⟩ := h
  refine Z_icmp_ge (tgt := 119) dX4_bringPivot_58 (by decide) g1 ⟨by decide, by decide⟩ (fun c => ?_) (fun c => ?_)
  · replace h := h.1 c
    refine Z_iconst dX4_bringPivot_119 ?_
    exact Z_zreturn dX4_bringPivot_120 rfl (Or.inr rfl) rfl ⟨rfl, true, rfl, h⟩
  · replace h := h.2 c
    refine Z_aload_n 0 dX4_bringPivot_61 rfl rfl ?_
    obtain ⟨g2, h⟩ := h
    refine Z_get (T := TX4) (N := 6) (ci := 4) (t := 2) 0 dX4_bringPivot_62 la_16 (z_leN la_16 (by decide)) rfl (by decide) inX4 (by decide) (flX4_13 rfl) rfl ?_
    refine Z_top (y := 17) ((Fix.get g2 la_16 0 1 (by decide +kernel)).trans (by clear h; omega)) ?_
    refine Z_iload_n 1 dX4_bringPivot_65 rfl rfl ?_
    refine Z_bipush dX4_bringPivot_66 (by decide) ?_
    refine Z_imul dX4_bringPivot_68 ?_
    refine Z_iload dX4_bringPivot_69 rfl ?_
    refine Z_iadd dX4_bringPivot_71 ?_
    obtain ⟨g3, h⟩ := h
    obtain ⟨g4, h⟩ := h
    refine Z_aald dX4_bringPivot_72 la_17 (z_leN la_17 (by decide)) g3 g4 ?_
    refine Z_astore (L' := [(2, 16), (0, x1), (9, 0), (0, x3), (0, x4), (2, (σ 17 ((x1 * 8) + x4)))]) dX4_bringPivot_73 (Nat.le_of_ble_eq_true rfl) rfl ?_
    refine Z_aload_n 0 dX4_bringPivot_75 rfl rfl ?_
    refine Z_get (T := TX4) (N := 6) (ci := 4) (t := 2) 0 dX4_bringPivot_76 la_16 (z_leN la_16 (by decide)) rfl (by decide) inX4 (by decide) (flX4_13 rfl) rfl ?_
    refine Z_top (y := 17) ((Fix.get g2 la_16 0 1 (by decide +kernel)).trans (by clear h; omega)) ?_
    refine Z_iload_n 1 dX4_bringPivot_79 rfl rfl ?_
    refine Z_bipush dX4_bringPivot_80 (by decide) ?_
    refine Z_imul dX4_bringPivot_82 ?_
    refine Z_iload dX4_bringPivot_83 rfl ?_
    refine Z_iadd dX4_bringPivot_85 ?_
    refine Z_aload_n 0 dX4_bringPivot_86 rfl rfl ?_
    refine Z_get (T := TX4) (N := 6) (ci := 4) (t := 2) 0 dX4_bringPivot_87 la_16 (z_leN la_16 (by decide)) rfl (by decide) inX4 (by decide) (flX4_13 rfl) rfl ?_
    refine Z_top (y := 17) ((Fix.get g2 la_16 0 1 (by decide +kernel)).trans (by clear h; omega)) ?_
    refine Z_iload_n 3 dX4_bringPivot_90 rfl rfl ?_
    refine Z_bipush dX4_bringPivot_91 (by decide) ?_
    refine Z_imul dX4_bringPivot_93 ?_
    refine Z_iload dX4_bringPivot_94 rfl ?_
    refine Z_iadd dX4_bringPivot_96 ?_
    obtain ⟨g5, h⟩ := h
    obtain ⟨g6, h⟩ := h
    refine Z_aald dX4_bringPivot_97 la_17 (z_leN la_17 (by decide)) g5 g6 ?_
    obtain ⟨g7, h⟩ := h
    refine Z_aast dX4_bringPivot_98 la_17 (z_leN la_17 (by decide)) g3 g4 g7 (z_leN g7 (by decide)) ?_
    refine Z_aload_n 0 dX4_bringPivot_99 rfl rfl ?_
    refine Z_get (T := TX4) (N := 6) (ci := 4) (t := 2) 0 dX4_bringPivot_100 la_16 (z_leN la_16 (by decide)) rfl (by decide) inX4 (by decide) (flX4_13 rfl) rfl ?_
    refine Z_top (y := 17) ((Fix.get (Fix.upA g2 la_17 (by decide)) la_16 0 1 (by decide +kernel)).trans (by clear h; omega)) ?_
    refine Z_iload_n 3 dX4_bringPivot_103 rfl rfl ?_
    refine Z_bipush dX4_bringPivot_104 (by decide) ?_
    refine Z_imul dX4_bringPivot_106 ?_
    refine Z_iload dX4_bringPivot_107 rfl ?_
    refine Z_iadd dX4_bringPivot_109 ?_
    refine Z_aload dX4_bringPivot_110 rfl ?_
    obtain ⟨g8, h⟩ := h
    refine Z_aast dX4_bringPivot_112 la_17 (z_leN la_17 (by decide)) g5 g6 g8 (z_leN g8 (by decide)) ?_
    refine Z_iinc (L' := [(2, 16), (0, x1), (9, 0), (0, x3), (0, (x4 + 1)), (2, (σ 17 ((x1 * 8) + x4)))]) dX4_bringPivot_113 rfl (Nat.le_of_ble_eq_true rfl) rfl ?_
    refine Z_goto (tgt := 54) dX4_bringPivot_116 (by decide) ?_
    exact Z_few (z_few_k (z_few_k (z_few_k (z_few_k (z_few_k (z_few_d z_few_0)))))) h
theorem bk_X4_clearColumn {X : ZS} {σ : ZM} {T : ZM → Prop} {x1 : Int} {x2 : Int} {x3 : Int} {x4 : Int} (h : ZC X (rX4_cell zN) mX4_cell [(2, 16), (0, x1), (0, x1)] zN σ (zQa (fun r1 σ2 => (Fix σ2) ∧ ZC X (rX9_lowest zN) mX9_lowest [(2, 20)] zN σ2 (zQl (fun r4 σ5 => Z X (rX4_clearColumn zN) mX4_clearColumn 20 [(2, 16), (0, x1), (9, 0), (0, x3), (0, x4), (2, r1), (1, r4), (9, 0), (0, x2), (9, 0), (9, 0), (9, 0), (9, 0), (9, 0), (9, 0), (9, 0)] [] zN σ5 (zQv T)))))) : ZC X (rX4_clearColumn zN) mX4_clearColumn [(2, 16), (0, x1), (0, x2), (0, x3), (0, x4)] zN σ (zQv T) := by
  show Z X _ _ 0 [(2, 16), (0, x1), (0, x2), (0, x3), (0, x4), (9, 0), (9, 0), (9, 0), (9, 0), (9, 0), (9, 0), (9, 0), (9, 0), (9, 0), (9, 0), (9, 0)] [] _ σ _
  refine Z_aload_n 0 dX4_clearColumn_0 rfl rfl ?_
  refine Z_iload_n 1 dX4_clearColumn_1 rfl rfl ?_
  refine Z_iload_n 1 dX4_clearColumn_2 rfl rfl ?_
  refine Z_invV (T := TX4) (N := 6) (ci := 4) (M' := mX4_cell) (ρ' := rX4_cell zN) (st := []) [(0, x1), (0, x1)] dX4_clearColumn_3 rfl rfl la_16 (z_leN la_16 (by decide)) (by decide) rfl rfl (kX4_cell.cl (Nat.le_of_ble_eq_true rfl) (Nat.le_refl _) (Nat.le_refl _) (Nat.le_of_ble_eq_true rfl) (Nat.le_of_ble_eq_true rfl) (Nat.le_of_ble_eq_true rfl)) (mlX4_38 rfl) iX4_cell sX4_cell h (z_ka (fun r1 σ2 h => ?_))
  refine Z_astore (L' := [(2, 16), (0, x1), (0, x2), (0, x3), (0, x4), (2, r1), (9, 0), (9, 0), (9, 0), (9, 0), (9, 0), (9, 0), (9, 0), (9, 0), (9, 0), (9, 0)]) dX4_clearColumn_6 (Nat.le_of_ble_eq_true rfl) rfl ?_
  refine Z_aload_n 0 dX4_clearColumn_8 rfl rfl ?_
  obtain ⟨g3, h⟩ := h
  refine Z_get (T := TX4) (N := 6) (ci := 4) (t := 2) 2 dX4_clearColumn_9 la_16 (z_leN la_16 (by decide)) rfl (by decide) inX4 (by decide) (flX4_22 rfl) rfl ?_
  refine Z_top (y := 20) ((Fix.get g3 la_16 2 4 (by decide +kernel)).trans (by clear h; omega)) ?_
  refine Z_invV (T := TX9) (N := 3) (ci := 9) (M' := mX9_lowest) (ρ' := rX9_lowest zN) (st := []) [] dX4_clearColumn_12 rfl rfl la_20 (z_leN la_20 (by decide)) (by decide) rfl rfl (kX9_lowest.cl (Nat.le_of_ble_eq_true rfl) (Nat.le_refl _) (Nat.le_refl _) (Nat.le_of_ble_eq_true rfl) (Nat.le_of_ble_eq_true rfl) (Nat.le_of_ble_eq_true rfl)) (mlX4_65 rfl) iX9_lowest sX9_lowest h (z_kl (fun r4 σ5 h => ?_))
  refine Z_lstore (L' := [(2, 16), (0, x1), (0, x2), (0, x3), (0, x4), (2, r1), (1, r4), (9, 0), (9, 0), (9, 0), (9, 0), (9, 0), (9, 0), (9, 0), (9, 0), (9, 0)]) dX4_clearColumn_15 (Nat.le_of_ble_eq_true rfl) rfl ?_
  refine Z_iload_n 2 dX4_clearColumn_17 rfl rfl ?_
  refine Z_istore (L' := [(2, 16), (0, x1), (0, x2), (0, x3), (0, x4), (2, r1), (1, r4), (9, 0), (0, x2), (9, 0), (9, 0), (9, 0), (9, 0), (9, 0), (9, 0), (9, 0)]) dX4_clearColumn_18 (Nat.le_of_ble_eq_true rfl) rfl ?_
  exact Z_few (z_few_k (z_few_k (z_few_d (z_few_k (z_few_k (z_few_k (z_few_k (z_few_k (z_few_k (z_few_k (z_few_k (z_few_k (z_few_k (z_few_k (z_few_k (z_few_k z_few_0)))))))))))))))) h
theorem bk_X4_clearColumn_20 {X : ZS} {σ : ZM} {T : ZM → Prop} {x1 : Int} {x3 : Int} {x4 : Int} {p5 : Int} (hp5 : z_l p5 = (9, 3)) {x6 : Int} {x8 : Int} (h : (r32 x8) ∧ (r32 x3) ∧ ((x3 ≤ x8) → T σ) ∧ ((¬ (x3 ≤ x8)) → (r32 x1) ∧ ((¬ x8 = x1) → ZC X (rX4_cell zN) mX4_cell [(2, 16), (0, x8), (0, x1)] zN σ (zQa (fun r4 σ5 => (r64 x6) ∧ ((x6 = 0) → Z X (rX4_clearColumn zN) mX4_clearColumn 92 [(2, 16), (0, x1), (9, 0), (0, x3), (0, x4), (2, p5), (1, x6), (9, 0), (0, x8), (2, r4), (0, 0), (0, (x1 + 1)), (9, 0), (9, 0), (9, 0), (9, 0)] [] zN σ5 (zQv T)) ∧ ((¬ x6 = 0) → (Fix σ5) ∧ (r32 (σ5 20 1)) ∧ ((2 ≤ (σ5 20 1)) → Z X (rX4_clearColumn zN) mX4_clearColumn 92 [(2, 16), (0, x1), (9, 0), (0, x3), (0, x4), (2, p5), (1, x6), (9, 0), (0, x8), (2, r4), (0, 0), (0, (x1 + 1)), (9, 0), (9, 0), (9, 0), (9, 0)] [] zN σ5 (zQv T)) ∧ ((¬ (2 ≤ (σ5 20 1))) → (r32 (σ5 p5 1)) ∧ ((2 ≤ (σ5 p5 1)) → Z X (rX4_clearColumn zN) mX4_clearColumn 92 [(2, 16), (0, x1), (9, 0), (0, x3), (0, x4), (2, p5), (1, x6), (9, 0), (0, x8), (2, r4), (0, 0), (0, (x1 + 1)), (9, 0), (9, 0), (9, 0), (9, 0)] [] zN σ5 (zQv T)) ∧ ((¬ (2 ≤ (σ5 p5 1))) → (z_l r4 = (9, 3)) ∧ (r32 (σ5 r4 1)) ∧ ((2 ≤ (σ5 r4 1)) → Z X (rX4_clearColumn zN) mX4_clearColumn 92 [(2, 16), (0, x1), (9, 0), (0, x3), (0, x4), (2, p5), (1, x6), (9, 0), (0, x8), (2, r4), (0, 0), (0, (x1 + 1)), (9, 0), (9, 0), (9, 0), (9, 0)] [] zN σ5 (zQv T)) ∧ ((¬ (2 ≤ (σ5 r4 1))) → Z X (rX4_clearColumn zN) mX4_clearColumn 92 [(2, 16), (0, x1), (9, 0), (0, x3), (0, x4), (2, p5), (1, x6), (9, 0), (0, x8), (2, r4), (0, 1), (0, (x1 + 1)), (9, 0), (9, 0), (9, 0), (9, 0)] [] zN σ5 (zQv T)))))))) ∧ ((x8 = x1) → Z X (rX4_clearColumn zN) mX4_clearColumn 20 [(2, 16), (0, x1), (9, 0), (0, x3), (0, x4), (2, p5), (1, x6), (9, 0), (0, (x8 + 1)), (9, 0), (9, 0), (9, 0), (9, 0), (9, 0), (9, 0), (9, 0)] [] zN σ (zQv T)))) : Z X (rX4_clearColumn zN) mX4_clearColumn 20 [(2, 16), (0, x1), (9, 0), (0, x3), (0, x4), (2, p5), (1, x6), (9, 0), (0, x8), (9, 0), (9, 0), (9, 0), (9, 0), (9, 0), (9, 0), (9, 0)] [] zN σ (zQv T) := by
  refine Z_iload dX4_clearColumn_20 rfl ?_
  refine Z_iload_n 3 dX4_clearColumn_22 rfl rfl ?_
  obtain ⟨g1, h⟩ := h
  obtain ⟨g2, h⟩ := h
  refine Z_icmp_ge (tgt := 242) dX4_clearColumn_23 (by decide) g1 g2 (fun c => ?_) (fun c => ?_)
  · replace h := h.1 c
    exact Z_return dX4_clearColumn_242 rfl rfl ⟨rfl, h⟩
  · replace h := h.2 c
    refine Z_iload dX4_clearColumn_26 rfl ?_
    refine Z_iload_n 1 dX4_clearColumn_28 rfl rfl ?_
    obtain ⟨g3, h⟩ := h
    refine Z_icmp_ne (tgt := 35) dX4_clearColumn_29 (by decide) g1 g3 (fun c => ?_) (fun c => ?_)
    · replace h := h.1 c
      refine Z_aload_n 0 dX4_clearColumn_35 rfl rfl ?_
      refine Z_iload dX4_clearColumn_36 rfl ?_
      refine Z_iload_n 1 dX4_clearColumn_38 rfl rfl ?_
      refine Z_invV (T := TX4) (N := 6) (ci := 4) (M' := mX4_cell) (ρ' := rX4_cell zN) (st := []) [(0, x8), (0, x1)] dX4_clearColumn_39 rfl rfl la_16 (z_leN la_16 (by decide)) (by decide) rfl rfl (kX4_cell.cl (Nat.le_of_ble_eq_true rfl) (Nat.le_refl _) (Nat.le_refl _) (Nat.le_of_ble_eq_true rfl) (Nat.le_of_ble_eq_true rfl) (Nat.le_of_ble_eq_true rfl)) (mlX4_38 rfl) iX4_cell sX4_cell h (z_ka (fun r4 σ5 h => ?_))
      refine Z_astore (L' := [(2, 16), (0, x1), (9, 0), (0, x3), (0, x4), (2, p5), (1, x6), (9, 0), (0, x8), (2, r4), (9, 0), (9, 0), (9, 0), (9, 0), (9, 0), (9, 0)]) dX4_clearColumn_42 (Nat.le_of_ble_eq_true rfl) rfl ?_
      refine Z_lload dX4_clearColumn_44 rfl ?_
      refine Z_lconst (x := 0) dX4_clearColumn_46 rfl ?_
      obtain ⟨g6, h⟩ := h
      refine Z_lc_eq (tgt := 84) dX4_clearColumn_47 dX4_clearColumn_48 (by decide) g6 ⟨by decide, by decide⟩ (fun c => ?_) (fun c => ?_)
      · replace h := h.1 c
        refine Z_iconst dX4_clearColumn_84 ?_
        refine Z_istore (L' := [(2, 16), (0, x1), (9, 0), (0, x3), (0, x4), (2, p5), (1, x6), (9, 0), (0, x8), (2, r4), (0, 0), (9, 0), (9, 0), (9, 0), (9, 0), (9, 0)]) dX4_clearColumn_85 (Nat.le_of_ble_eq_true rfl) rfl ?_
        refine Z_iload_n 1 dX4_clearColumn_87 rfl rfl ?_
        refine Z_iconst dX4_clearColumn_88 ?_
        refine Z_iadd dX4_clearColumn_89 ?_
        refine Z_istore (L' := [(2, 16), (0, x1), (9, 0), (0, x3), (0, x4), (2, p5), (1, x6), (9, 0), (0, x8), (2, r4), (0, 0), (0, (x1 + 1)), (9, 0), (9, 0), (9, 0), (9, 0)]) dX4_clearColumn_90 (Nat.le_of_ble_eq_true rfl) rfl ?_
        exact Z_few (z_few_k (z_few_k (z_few_k (z_few_k (z_few_k (z_few_k (z_few_k (z_few_k (z_few_k (z_few_k (z_few_k (z_few_k (z_few_k (z_few_k (z_few_k (z_few_k z_few_0)))))))))))))))) h
      · replace h := h.2 c
        refine Z_aload_n 0 dX4_clearColumn_51 rfl rfl ?_
        obtain ⟨g7, h⟩ := h
        refine Z_get (T := TX4) (N := 6) (ci := 4) (t := 2) 2 dX4_clearColumn_52 la_16 (z_leN la_16 (by decide)) rfl (by decide) inX4 (by decide) (flX4_22 rfl) rfl ?_
        refine Z_top (y := 20) ((Fix.get g7 la_16 2 4 (by decide +kernel)).trans (by clear h; omega)) ?_
        refine Z_get (T := TX9) (N := 3) (ci := 9) (t := 0) 1 dX4_clearColumn_55 la_20 (z_leN la_20 (by decide)) rfl (by decide) inX9 (by decide) (flX4_69 rfl) rfl ?_
        refine Z_iconst dX4_clearColumn_58 ?_
        obtain ⟨g8, h⟩ := h
        refine Z_icmp_ge (tgt := 84) dX4_clearColumn_59 (by decide) g8 ⟨by decide, by decide⟩ (fun c => ?_) (fun c => ?_)
        · replace h := h.1 c
          refine Z_iconst dX4_clearColumn_84 ?_
          refine Z_istore (L' := [(2, 16), (0, x1), (9, 0), (0, x3), (0, x4), (2, p5), (1, x6), (9, 0), (0, x8), (2, r4), (0, 0), (9, 0), (9, 0), (9, 0), (9, 0), (9, 0)]) dX4_clearColumn_85 (Nat.le_of_ble_eq_true rfl) rfl ?_
          refine Z_iload_n 1 dX4_clearColumn_87 rfl rfl ?_
          refine Z_iconst dX4_clearColumn_88 ?_
          refine Z_iadd dX4_clearColumn_89 ?_
          refine Z_istore (L' := [(2, 16), (0, x1), (9, 0), (0, x3), (0, x4), (2, p5), (1, x6), (9, 0), (0, x8), (2, r4), (0, 0), (0, (x1 + 1)), (9, 0), (9, 0), (9, 0), (9, 0)]) dX4_clearColumn_90 (Nat.le_of_ble_eq_true rfl) rfl ?_
          exact Z_few (z_few_k (z_few_k (z_few_k (z_few_k (z_few_k (z_few_k (z_few_k (z_few_k (z_few_k (z_few_k (z_few_k (z_few_k (z_few_k (z_few_k (z_few_k (z_few_k z_few_0)))))))))))))))) h
        · replace h := h.2 c
          refine Z_aload dX4_clearColumn_62 rfl ?_
          refine Z_get (T := TX9) (N := 3) (ci := 9) (t := 0) 1 dX4_clearColumn_64 hp5 (z_leN hp5 (by decide)) rfl (by decide) inX9 (by decide) (flX4_69 rfl) rfl ?_
          refine Z_iconst dX4_clearColumn_67 ?_
          obtain ⟨g9, h⟩ := h
          refine Z_icmp_ge (tgt := 84) dX4_clearColumn_68 (by decide) g9 ⟨by decide, by decide⟩ (fun c => ?_) (fun c => ?_)
          · replace h := h.1 c
            refine Z_iconst dX4_clearColumn_84 ?_
            refine Z_istore (L' := [(2, 16), (0, x1), (9, 0), (0, x3), (0, x4), (2, p5), (1, x6), (9, 0), (0, x8), (2, r4), (0, 0), (9, 0), (9, 0), (9, 0), (9, 0), (9, 0)]) dX4_clearColumn_85 (Nat.le_of_ble_eq_true rfl) rfl ?_
            refine Z_iload_n 1 dX4_clearColumn_87 rfl rfl ?_
            refine Z_iconst dX4_clearColumn_88 ?_
            refine Z_iadd dX4_clearColumn_89 ?_
            refine Z_istore (L' := [(2, 16), (0, x1), (9, 0), (0, x3), (0, x4), (2, p5), (1, x6), (9, 0), (0, x8), (2, r4), (0, 0), (0, (x1 + 1)), (9, 0), (9, 0), (9, 0), (9, 0)]) dX4_clearColumn_90 (Nat.le_of_ble_eq_true rfl) rfl ?_
            exact Z_few (z_few_k (z_few_k (z_few_k (z_few_k (z_few_k (z_few_k (z_few_k (z_few_k (z_few_k (z_few_k (z_few_k (z_few_k (z_few_k (z_few_k (z_few_k (z_few_k z_few_0)))))))))))))))) h
          · replace h := h.2 c
            refine Z_aload dX4_clearColumn_71 rfl ?_
            obtain ⟨g10, h⟩ := h
            refine Z_get (T := TX9) (N := 3) (ci := 9) (t := 0) 1 dX4_clearColumn_73 g10 (z_leN g10 (by decide)) rfl (by decide) inX9 (by decide) (flX4_69 rfl) rfl ?_
            refine Z_iconst dX4_clearColumn_76 ?_
            obtain ⟨g11, h⟩ := h
            refine Z_icmp_ge (tgt := 84) dX4_clearColumn_77 (by decide) g11 ⟨by decide, by decide⟩ (fun c => ?_) (fun c => ?_)
            · replace h := h.1 c
              refine Z_iconst dX4_clearColumn_84 ?_
              refine Z_istore (L' := [(2, 16), (0, x1), (9, 0), (0, x3), (0, x4), (2, p5), (1, x6), (9, 0), (0, x8), (2, r4), (0, 0), (9, 0), (9, 0), (9, 0), (9, 0), (9, 0)]) dX4_clearColumn_85 (Nat.le_of_ble_eq_true rfl) rfl ?_
              refine Z_iload_n 1 dX4_clearColumn_87 rfl rfl ?_
              refine Z_iconst dX4_clearColumn_88 ?_
              refine Z_iadd dX4_clearColumn_89 ?_
              refine Z_istore (L' := [(2, 16), (0, x1), (9, 0), (0, x3), (0, x4), (2, p5), (1, x6), (9, 0), (0, x8), (2, r4), (0, 0), (0, (x1 + 1)), (9, 0), (9, 0), (9, 0), (9, 0)]) dX4_clearColumn_90 (Nat.le_of_ble_eq_true rfl) rfl ?_
              exact Z_few (z_few_k (z_few_k (z_few_k (z_few_k (z_few_k (z_few_k (z_few_k (z_few_k (z_few_k (z_few_k (z_few_k (z_few_k (z_few_k (z_few_k (z_few_k (z_few_k z_few_0)))))))))))))))) h
            · replace h := h.2 c
              refine Z_iconst dX4_clearColumn_80 ?_
              refine Z_goto (tgt := 85) dX4_clearColumn_81 (by decide) ?_
              refine Z_istore (L' := [(2, 16), (0, x1), (9, 0), (0, x3), (0, x4), (2, p5), (1, x6), (9, 0), (0, x8), (2, r4), (0, 1), (9, 0), (9, 0), (9, 0), (9, 0), (9, 0)]) dX4_clearColumn_85 (Nat.le_of_ble_eq_true rfl) rfl ?_
              refine Z_iload_n 1 dX4_clearColumn_87 rfl rfl ?_
              refine Z_iconst dX4_clearColumn_88 ?_
              refine Z_iadd dX4_clearColumn_89 ?_
              refine Z_istore (L' := [(2, 16), (0, x1), (9, 0), (0, x3), (0, x4), (2, p5), (1, x6), (9, 0), (0, x8), (2, r4), (0, 1), (0, (x1 + 1)), (9, 0), (9, 0), (9, 0), (9, 0)]) dX4_clearColumn_90 (Nat.le_of_ble_eq_true rfl) rfl ?_
              exact Z_few (z_few_k (z_few_k (z_few_k (z_few_k (z_few_k (z_few_k (z_few_k (z_few_k (z_few_k (z_few_k (z_few_k (z_few_k (z_few_k (z_few_k (z_few_k (z_few_k z_few_0)))))))))))))))) h
    · replace h := h.2 c
      refine Z_goto (tgt := 236) dX4_clearColumn_32 (by decide) ?_
      refine Z_iinc (L' := [(2, 16), (0, x1), (9, 0), (0, x3), (0, x4), (2, p5), (1, x6), (9, 0), (0, (x8 + 1)), (9, 0), (9, 0), (9, 0), (9, 0), (9, 0), (9, 0), (9, 0)]) dX4_clearColumn_236 rfl (Nat.le_of_ble_eq_true rfl) rfl ?_
      refine Z_goto (tgt := 20) dX4_clearColumn_239 (by decide) ?_
      exact Z_few (z_few_k (z_few_k (z_few_k (z_few_k (z_few_k (z_few_k (z_few_k (z_few_k (z_few_k (z_few_k (z_few_k (z_few_k (z_few_k (z_few_k (z_few_k (z_few_k z_few_0)))))))))))))))) h
theorem bk_X4_clearColumn_92 {X : ZS} {σ : ZM} {T : ZM → Prop} {x1 : Int} {x3 : Int} {x4 : Int} {p5 : Int} (hp5 : z_l p5 = (9, 3)) {x6 : Int} {x8 : Int} {p9 : Int} (hp9 : z_l p9 = (9, 3)) {x10 : Int} {x11 : Int} (h : (r32 x11) ∧ (r32 x4) ∧ ((x4 ≤ x11) → Z X (rX4_clearColumn zN) mX4_clearColumn 20 [(2, 16), (0, x1), (9, 0), (0, x3), (0, x4), (2, p5), (1, x6), (9, 0), (0, (x8 + 1)), (9, 0), (9, 0), (9, 0), (9, 0), (9, 0), (9, 0), (9, 0)] [] zN σ (zQv T)) ∧ ((¬ (x4 ≤ x11)) → ZC X (rX4_cell zN) mX4_cell [(2, 16), (0, x8), (0, x11)] zN σ (zQa (fun r3 σ4 => ZC X (rX4_cell zN) mX4_cell [(2, 16), (0, x1), (0, x11)] zN σ4 (zQa (fun r5 σ6 => (r32 x10) ∧ ((x10 = 0) → (Fix σ6) ∧ ZC X (rX9_multiply zN) mX9_multiply [(2, 22), (2, p5), (2, r3)] zN σ6 (zQv (fun σ10 => (Fix σ10) ∧ ZC X (rX9_multiply zN) mX9_multiply [(2, 24), (2, p9), (2, r5)] zN σ10 (zQv (fun σ13 => (Fix σ13) ∧ ZC X (rX9_addTimes zN) mX9_addTimes [(2, 22), (2, 24), (0, (-1))] zN σ13 (zQv (fun σ16 => (Fix σ16) ∧ ZC X (rX1_divide zN) mX1_divide [(2, 26), (2, 22), (2, 20), (2, r3)] zN σ16 (zQv (fun σ19 => Z X (rX4_clearColumn zN) mX4_clearColumn 92 [(2, 16), (0, x1), (9, 0), (0, x3), (0, x4), (2, p5), (1, x6), (9, 0), (0, x8), (2, p9), (0, x10), (0, (x11 + 1)), (9, 0), (9, 0), (9, 0), (9, 0)] [] zN σ19 (zQv T)))))))))) ∧ ((¬ x10 = 0) → (z_l r3 = (9, 3)) ∧ (r32 (σ6 r3 1)) ∧ ((2 ≤ (σ6 r3 1)) → (Fix σ6) ∧ ZC X (rX9_multiply zN) mX9_multiply [(2, 22), (2, p5), (2, r3)] zN σ6 (zQv (fun σ24 => (Fix σ24) ∧ ZC X (rX9_multiply zN) mX9_multiply [(2, 24), (2, p9), (2, r5)] zN σ24 (zQv (fun σ27 => (Fix σ27) ∧ ZC X (rX9_addTimes zN) mX9_addTimes [(2, 22), (2, 24), (0, (-1))] zN σ27 (zQv (fun σ30 => (Fix σ30) ∧ ZC X (rX1_divide zN) mX1_divide [(2, 26), (2, 22), (2, 20), (2, r3)] zN σ30 (zQv (fun σ33 => Z X (rX4_clearColumn zN) mX4_clearColumn 92 [(2, 16), (0, x1), (9, 0), (0, x3), (0, x4), (2, p5), (1, x6), (9, 0), (0, x8), (2, p9), (0, x10), (0, (x11 + 1)), (9, 0), (9, 0), (9, 0), (9, 0)] [] zN σ33 (zQv T)))))))))) ∧ ((¬ (2 ≤ (σ6 r3 1))) → (z_l r5 = (9, 3)) ∧ (r32 (σ6 r5 1)) ∧ ((2 ≤ (σ6 r5 1)) → (Fix σ6) ∧ ZC X (rX9_multiply zN) mX9_multiply [(2, 22), (2, p5), (2, r3)] zN σ6 (zQv (fun σ38 => (Fix σ38) ∧ ZC X (rX9_multiply zN) mX9_multiply [(2, 24), (2, p9), (2, r5)] zN σ38 (zQv (fun σ41 => (Fix σ41) ∧ ZC X (rX9_addTimes zN) mX9_addTimes [(2, 22), (2, 24), (0, (-1))] zN σ41 (zQv (fun σ44 => (Fix σ44) ∧ ZC X (rX1_divide zN) mX1_divide [(2, 26), (2, 22), (2, 20), (2, r3)] zN σ44 (zQv (fun σ47 => Z X (rX4_clearColumn zN) mX4_clearColumn 92 [(2, 16), (0, x1), (9, 0), (0, x3), (0, x4), (2, p5), (1, x6), (9, 0), (0, x8), (2, p9), (0, x10), (0, (x11 + 1)), (9, 0), (9, 0), (9, 0), (9, 0)] [] zN σ47 (zQv T)))))))))) ∧ ((¬ (2 ≤ (σ6 r5 1))) → ZC X (rX9_lowest zN) mX9_lowest [(2, p5)] zN σ6 (zQl (fun r48 σ49 => ZC X (rX9_lowest zN) mX9_lowest [(2, r3)] zN σ49 (zQl (fun r50 σ51 => ZC X (rX9_lowest zN) mX9_lowest [(2, p9)] zN σ51 (zQl (fun r52 σ53 => ZC X (rX9_lowest zN) mX9_lowest [(2, r5)] zN σ53 (zQl (fun r54 σ55 => (r64 ((r48 * r50) - (r52 * r54))) ∧ (r64 x6) ∧ (x6 ≠ 0) ∧ ZC X (rX9_put zN) mX9_put [(2, r3), (1, (Int.tdiv ((r48 * r50) - (r52 * r54)) x6))] zN σ55 (zQv (fun σ60 => Z X (rX4_clearColumn zN) mX4_clearColumn 92 [(2, 16), (0, x1), (9, 0), (0, x3), (0, x4), (2, p5), (1, x6), (9, 0), (0, x8), (2, p9), (0, x10), (0, (x11 + 1)), (9, 0), (9, 0), (9, 0), (9, 0)] [] zN σ60 (zQv T)))))))))))))))))))) : Z X (rX4_clearColumn zN) mX4_clearColumn 92 [(2, 16), (0, x1), (9, 0), (0, x3), (0, x4), (2, p5), (1, x6), (9, 0), (0, x8), (2, p9), (0, x10), (0, x11), (9, 0), (9, 0), (9, 0), (9, 0)] [] zN σ (zQv T) := by
  refine Z_iload dX4_clearColumn_92 rfl ?_
  refine Z_iload dX4_clearColumn_94 rfl ?_
  obtain ⟨g1, h⟩ := h
  obtain ⟨g2, h⟩ := h
  refine Z_icmp_ge (tgt := 236) dX4_clearColumn_96 (by decide) g1 g2 (fun c => ?_) (fun c => ?_)
  · replace h := h.1 c
    refine Z_iinc (L' := [(2, 16), (0, x1), (9, 0), (0, x3), (0, x4), (2, p5), (1, x6), (9, 0), (0, (x8 + 1)), (2, p9), (0, x10), (0, x11), (9, 0), (9, 0), (9, 0), (9, 0)]) dX4_clearColumn_236 rfl (Nat.le_of_ble_eq_true rfl) rfl ?_
    refine Z_goto (tgt := 20) dX4_clearColumn_239 (by decide) ?_
    exact Z_few (z_few_k (z_few_k (z_few_k (z_few_k (z_few_k (z_few_k (z_few_k (z_few_k (z_few_k (z_few_d (z_few_d (z_few_d (z_few_k (z_few_k (z_few_k (z_few_k z_few_0)))))))))))))))) h
  · replace h := h.2 c
    refine Z_aload_n 0 dX4_clearColumn_99 rfl rfl ?_
    refine Z_iload dX4_clearColumn_100 rfl ?_
    refine Z_iload dX4_clearColumn_102 rfl ?_
    refine Z_invV (T := TX4) (N := 6) (ci := 4) (M' := mX4_cell) (ρ' := rX4_cell zN) (st := []) [(0, x8), (0, x11)] dX4_clearColumn_104 rfl rfl la_16 (z_leN la_16 (by decide)) (by decide) rfl rfl (kX4_cell.cl (Nat.le_of_ble_eq_true rfl) (Nat.le_refl _) (Nat.le_refl _) (Nat.le_of_ble_eq_true rfl) (Nat.le_of_ble_eq_true rfl) (Nat.le_of_ble_eq_true rfl)) (mlX4_38 rfl) iX4_cell sX4_cell h (z_ka (fun r3 σ4 h => ?_))
    refine Z_astore (L' := [(2, 16), (0, x1), (9, 0), (0, x3), (0, x4), (2, p5), (1, x6), (9, 0), (0, x8), (2, p9), (0, x10), (0, x11), (2, r3), (9, 0), (9, 0), (9, 0)]) dX4_clearColumn_107 (Nat.le_of_ble_eq_true rfl) rfl ?_
    refine Z_aload_n 0 dX4_clearColumn_109 rfl rfl ?_
    refine Z_iload_n 1 dX4_clearColumn_110 rfl rfl ?_
    refine Z_iload dX4_clearColumn_111 rfl ?_
    refine Z_invV (T := TX4) (N := 6) (ci := 4) (M' := mX4_cell) (ρ' := rX4_cell zN) (st := []) [(0, x1), (0, x11)] dX4_clearColumn_113 rfl rfl la_16 (z_leN la_16 (by decide)) (by decide) rfl rfl (kX4_cell.cl (Nat.le_of_ble_eq_true rfl) (Nat.le_refl _) (Nat.le_refl _) (Nat.le_of_ble_eq_true rfl) (Nat.le_of_ble_eq_true rfl) (Nat.le_of_ble_eq_true rfl)) (mlX4_38 rfl) iX4_cell sX4_cell h (z_ka (fun r5 σ6 h => ?_))
    refine Z_astore (L' := [(2, 16), (0, x1), (9, 0), (0, x3), (0, x4), (2, p5), (1, x6), (9, 0), (0, x8), (2, p9), (0, x10), (0, x11), (2, r3), (2, r5), (9, 0), (9, 0)]) dX4_clearColumn_116 (Nat.le_of_ble_eq_true rfl) rfl ?_
    refine Z_iload dX4_clearColumn_118 rfl ?_
    obtain ⟨g7, h⟩ := h
    refine Z_if_eq (tgt := 179) dX4_clearColumn_120 (by decide) g7 (fun c => ?_) (fun c => ?_)
    · replace h := h.1 c
      refine Z_aload_n 0 dX4_clearColumn_179 rfl rfl ?_
      obtain ⟨g8, h⟩ := h
      refine Z_get (T := TX4) (N := 6) (ci := 4) (t := 2) 3 dX4_clearColumn_180 la_16 (z_leN la_16 (by decide)) rfl (by decide) inX4 (by decide) (flX4_25 rfl) rfl ?_
      refine Z_top (y := 22) ((Fix.get g8 la_16 3 6 (by decide +kernel)).trans (by clear h; omega)) ?_
      refine Z_aload dX4_clearColumn_183 rfl ?_
      refine Z_aload dX4_clearColumn_185 rfl ?_
      refine Z_invV (T := TX9) (N := 3) (ci := 9) (M' := mX9_multiply) (ρ' := rX9_multiply zN) (st := []) [(2, p5), (2, r3)] dX4_clearColumn_187 rfl rfl la_22 (z_leN la_22 (by decide)) (by decide) rfl rfl (kX9_multiply.cl (Nat.le_of_ble_eq_true rfl) (Nat.le_refl _) (Nat.le_refl _) (Nat.le_of_ble_eq_true rfl) (Nat.le_of_ble_eq_true rfl) (Nat.le_of_ble_eq_true rfl)) (mlX4_72 rfl) iX9_multiply sX9_multiply h (z_kv (fun σ10 h => ?_))
      refine Z_aload_n 0 dX4_clearColumn_190 rfl rfl ?_
      obtain ⟨g11, h⟩ := h
      refine Z_get (T := TX4) (N := 6) (ci := 4) (t := 2) 4 dX4_clearColumn_191 la_16 (z_leN la_16 (by decide)) rfl (by decide) inX4 (by decide) (flX4_28 rfl) rfl ?_
      refine Z_top (y := 24) ((Fix.get g11 la_16 4 8 (by decide +kernel)).trans (by clear h; omega)) ?_
      refine Z_aload dX4_clearColumn_194 rfl ?_
      refine Z_aload dX4_clearColumn_196 rfl ?_
      refine Z_invV (T := TX9) (N := 3) (ci := 9) (M' := mX9_multiply) (ρ' := rX9_multiply zN) (st := []) [(2, p9), (2, r5)] dX4_clearColumn_198 rfl rfl la_24 (z_leN la_24 (by decide)) (by decide) rfl rfl (kX9_multiply.cl (Nat.le_of_ble_eq_true rfl) (Nat.le_refl _) (Nat.le_refl _) (Nat.le_of_ble_eq_true rfl) (Nat.le_of_ble_eq_true rfl) (Nat.le_of_ble_eq_true rfl)) (mlX4_72 rfl) iX9_multiply sX9_multiply h (z_kv (fun σ13 h => ?_))
      refine Z_aload_n 0 dX4_clearColumn_201 rfl rfl ?_
      obtain ⟨g14, h⟩ := h
      refine Z_get (T := TX4) (N := 6) (ci := 4) (t := 2) 3 dX4_clearColumn_202 la_16 (z_leN la_16 (by decide)) rfl (by decide) inX4 (by decide) (flX4_25 rfl) rfl ?_
      refine Z_top (y := 22) ((Fix.get g14 la_16 3 6 (by decide +kernel)).trans (by clear h; omega)) ?_
      refine Z_aload_n 0 dX4_clearColumn_205 rfl rfl ?_
      refine Z_get (T := TX4) (N := 6) (ci := 4) (t := 2) 4 dX4_clearColumn_206 la_16 (z_leN la_16 (by decide)) rfl (by decide) inX4 (by decide) (flX4_28 rfl) rfl ?_
      refine Z_top (y := 24) ((Fix.get g14 la_16 4 8 (by decide +kernel)).trans (by clear h; omega)) ?_
      refine Z_iconst dX4_clearColumn_209 ?_
      refine Z_invV (T := TX9) (N := 3) (ci := 9) (M' := mX9_addTimes) (ρ' := rX9_addTimes zN) (st := []) [(2, 24), (0, (-1))] dX4_clearColumn_210 rfl rfl la_22 (z_leN la_22 (by decide)) (by decide) rfl rfl (kX9_addTimes.cl (Nat.le_of_ble_eq_true rfl) (Nat.le_refl _) (Nat.le_refl _) (Nat.le_of_ble_eq_true rfl) (Nat.le_of_ble_eq_true rfl) (Nat.le_of_ble_eq_true rfl)) (mlX4_76 rfl) iX9_addTimes sX9_addTimes h (z_kv (fun σ16 h => ?_))
      refine Z_aload_n 0 dX4_clearColumn_213 rfl rfl ?_
      obtain ⟨g17, h⟩ := h
      refine Z_get (T := TX4) (N := 6) (ci := 4) (t := 2) 5 dX4_clearColumn_214 la_16 (z_leN la_16 (by decide)) rfl (by decide) inX4 (by decide) (flX4_34 rfl) rfl ?_
      refine Z_top (y := 26) ((Fix.get g17 la_16 5 10 (by decide +kernel)).trans (by clear h; omega)) ?_
      refine Z_aload_n 0 dX4_clearColumn_217 rfl rfl ?_
      refine Z_get (T := TX4) (N := 6) (ci := 4) (t := 2) 3 dX4_clearColumn_218 la_16 (z_leN la_16 (by decide)) rfl (by decide) inX4 (by decide) (flX4_25 rfl) rfl ?_
      refine Z_top (y := 22) ((Fix.get g17 la_16 3 6 (by decide +kernel)).trans (by clear h; omega)) ?_
      refine Z_aload_n 0 dX4_clearColumn_221 rfl rfl ?_
      refine Z_get (T := TX4) (N := 6) (ci := 4) (t := 2) 2 dX4_clearColumn_222 la_16 (z_leN la_16 (by decide)) rfl (by decide) inX4 (by decide) (flX4_22 rfl) rfl ?_
      refine Z_top (y := 20) ((Fix.get g17 la_16 2 4 (by decide +kernel)).trans (by clear h; omega)) ?_
      refine Z_aload dX4_clearColumn_225 rfl ?_
      refine Z_invV (T := TX1) (N := 4) (ci := 1) (M' := mX1_divide) (ρ' := rX1_divide zN) (st := []) [(2, 22), (2, 20), (2, r3)] dX4_clearColumn_227 rfl rfl la_26 (z_leN la_26 (by decide)) (by decide) rfl rfl (kX1_divide.cl (Nat.le_of_ble_eq_true rfl) (Nat.le_refl _) (Nat.le_refl _) (Nat.le_of_ble_eq_true rfl) (Nat.le_of_ble_eq_true rfl) (Nat.le_of_ble_eq_true rfl)) (mlX4_80 rfl) iX1_divide sX1_divide h (z_kv (fun σ19 h => ?_))
      refine Z_iinc (L' := [(2, 16), (0, x1), (9, 0), (0, x3), (0, x4), (2, p5), (1, x6), (9, 0), (0, x8), (2, p9), (0, x10), (0, (x11 + 1)), (2, r3), (2, r5), (9, 0), (9, 0)]) dX4_clearColumn_230 rfl (Nat.le_of_ble_eq_true rfl) rfl ?_
      refine Z_goto (tgt := 92) dX4_clearColumn_233 (by decide) ?_
      exact Z_few (z_few_k (z_few_k (z_few_k (z_few_k (z_few_k (z_few_k (z_few_k (z_few_k (z_few_k (z_few_k (z_few_k (z_few_k (z_few_d (z_few_d (z_few_k (z_few_k z_few_0)))))))))))))))) h
    · replace h := h.2 c
      refine Z_aload dX4_clearColumn_123 rfl ?_
      obtain ⟨g20, h⟩ := h
      refine Z_get (T := TX9) (N := 3) (ci := 9) (t := 0) 1 dX4_clearColumn_125 g20 (z_leN g20 (by decide)) rfl (by decide) inX9 (by decide) (flX4_69 rfl) rfl ?_
      refine Z_iconst dX4_clearColumn_128 ?_
      obtain ⟨g21, h⟩ := h
      refine Z_icmp_ge (tgt := 179) dX4_clearColumn_129 (by decide) g21 ⟨by decide, by decide⟩ (fun c => ?_) (fun c => ?_)
      · replace h := h.1 c
        refine Z_aload_n 0 dX4_clearColumn_179 rfl rfl ?_
        obtain ⟨g22, h⟩ := h
        refine Z_get (T := TX4) (N := 6) (ci := 4) (t := 2) 3 dX4_clearColumn_180 la_16 (z_leN la_16 (by decide)) rfl (by decide) inX4 (by decide) (flX4_25 rfl) rfl ?_
        refine Z_top (y := 22) ((Fix.get g22 la_16 3 6 (by decide +kernel)).trans (by clear h; omega)) ?_
        refine Z_aload dX4_clearColumn_183 rfl ?_
        refine Z_aload dX4_clearColumn_185 rfl ?_
        refine Z_invV (T := TX9) (N := 3) (ci := 9) (M' := mX9_multiply) (ρ' := rX9_multiply zN) (st := []) [(2, p5), (2, r3)] dX4_clearColumn_187 rfl rfl la_22 (z_leN la_22 (by decide)) (by decide) rfl rfl (kX9_multiply.cl (Nat.le_of_ble_eq_true rfl) (Nat.le_refl _) (Nat.le_refl _) (Nat.le_of_ble_eq_true rfl) (Nat.le_of_ble_eq_true rfl) (Nat.le_of_ble_eq_true rfl)) (mlX4_72 rfl) iX9_multiply sX9_multiply h (z_kv (fun σ24 h => ?_))
        refine Z_aload_n 0 dX4_clearColumn_190 rfl rfl ?_
        obtain ⟨g25, h⟩ := h
        refine Z_get (T := TX4) (N := 6) (ci := 4) (t := 2) 4 dX4_clearColumn_191 la_16 (z_leN la_16 (by decide)) rfl (by decide) inX4 (by decide) (flX4_28 rfl) rfl ?_
        refine Z_top (y := 24) ((Fix.get g25 la_16 4 8 (by decide +kernel)).trans (by clear h; omega)) ?_
        refine Z_aload dX4_clearColumn_194 rfl ?_
        refine Z_aload dX4_clearColumn_196 rfl ?_
        refine Z_invV (T := TX9) (N := 3) (ci := 9) (M' := mX9_multiply) (ρ' := rX9_multiply zN) (st := []) [(2, p9), (2, r5)] dX4_clearColumn_198 rfl rfl la_24 (z_leN la_24 (by decide)) (by decide) rfl rfl (kX9_multiply.cl (Nat.le_of_ble_eq_true rfl) (Nat.le_refl _) (Nat.le_refl _) (Nat.le_of_ble_eq_true rfl) (Nat.le_of_ble_eq_true rfl) (Nat.le_of_ble_eq_true rfl)) (mlX4_72 rfl) iX9_multiply sX9_multiply h (z_kv (fun σ27 h => ?_))
        refine Z_aload_n 0 dX4_clearColumn_201 rfl rfl ?_
        obtain ⟨g28, h⟩ := h
        refine Z_get (T := TX4) (N := 6) (ci := 4) (t := 2) 3 dX4_clearColumn_202 la_16 (z_leN la_16 (by decide)) rfl (by decide) inX4 (by decide) (flX4_25 rfl) rfl ?_
        refine Z_top (y := 22) ((Fix.get g28 la_16 3 6 (by decide +kernel)).trans (by clear h; omega)) ?_
        refine Z_aload_n 0 dX4_clearColumn_205 rfl rfl ?_
        refine Z_get (T := TX4) (N := 6) (ci := 4) (t := 2) 4 dX4_clearColumn_206 la_16 (z_leN la_16 (by decide)) rfl (by decide) inX4 (by decide) (flX4_28 rfl) rfl ?_
        refine Z_top (y := 24) ((Fix.get g28 la_16 4 8 (by decide +kernel)).trans (by clear h; omega)) ?_
        refine Z_iconst dX4_clearColumn_209 ?_
        refine Z_invV (T := TX9) (N := 3) (ci := 9) (M' := mX9_addTimes) (ρ' := rX9_addTimes zN) (st := []) [(2, 24), (0, (-1))] dX4_clearColumn_210 rfl rfl la_22 (z_leN la_22 (by decide)) (by decide) rfl rfl (kX9_addTimes.cl (Nat.le_of_ble_eq_true rfl) (Nat.le_refl _) (Nat.le_refl _) (Nat.le_of_ble_eq_true rfl) (Nat.le_of_ble_eq_true rfl) (Nat.le_of_ble_eq_true rfl)) (mlX4_76 rfl) iX9_addTimes sX9_addTimes h (z_kv (fun σ30 h => ?_))
        refine Z_aload_n 0 dX4_clearColumn_213 rfl rfl ?_
        obtain ⟨g31, h⟩ := h
        refine Z_get (T := TX4) (N := 6) (ci := 4) (t := 2) 5 dX4_clearColumn_214 la_16 (z_leN la_16 (by decide)) rfl (by decide) inX4 (by decide) (flX4_34 rfl) rfl ?_
        refine Z_top (y := 26) ((Fix.get g31 la_16 5 10 (by decide +kernel)).trans (by clear h; omega)) ?_
        refine Z_aload_n 0 dX4_clearColumn_217 rfl rfl ?_
        refine Z_get (T := TX4) (N := 6) (ci := 4) (t := 2) 3 dX4_clearColumn_218 la_16 (z_leN la_16 (by decide)) rfl (by decide) inX4 (by decide) (flX4_25 rfl) rfl ?_
        refine Z_top (y := 22) ((Fix.get g31 la_16 3 6 (by decide +kernel)).trans (by clear h; omega)) ?_
        refine Z_aload_n 0 dX4_clearColumn_221 rfl rfl ?_
        refine Z_get (T := TX4) (N := 6) (ci := 4) (t := 2) 2 dX4_clearColumn_222 la_16 (z_leN la_16 (by decide)) rfl (by decide) inX4 (by decide) (flX4_22 rfl) rfl ?_
        refine Z_top (y := 20) ((Fix.get g31 la_16 2 4 (by decide +kernel)).trans (by clear h; omega)) ?_
        refine Z_aload dX4_clearColumn_225 rfl ?_
        refine Z_invV (T := TX1) (N := 4) (ci := 1) (M' := mX1_divide) (ρ' := rX1_divide zN) (st := []) [(2, 22), (2, 20), (2, r3)] dX4_clearColumn_227 rfl rfl la_26 (z_leN la_26 (by decide)) (by decide) rfl rfl (kX1_divide.cl (Nat.le_of_ble_eq_true rfl) (Nat.le_refl _) (Nat.le_refl _) (Nat.le_of_ble_eq_true rfl) (Nat.le_of_ble_eq_true rfl) (Nat.le_of_ble_eq_true rfl)) (mlX4_80 rfl) iX1_divide sX1_divide h (z_kv (fun σ33 h => ?_))
        refine Z_iinc (L' := [(2, 16), (0, x1), (9, 0), (0, x3), (0, x4), (2, p5), (1, x6), (9, 0), (0, x8), (2, p9), (0, x10), (0, (x11 + 1)), (2, r3), (2, r5), (9, 0), (9, 0)]) dX4_clearColumn_230 rfl (Nat.le_of_ble_eq_true rfl) rfl ?_
        refine Z_goto (tgt := 92) dX4_clearColumn_233 (by decide) ?_
        exact Z_few (z_few_k (z_few_k (z_few_k (z_few_k (z_few_k (z_few_k (z_few_k (z_few_k (z_few_k (z_few_k (z_few_k (z_few_k (z_few_d (z_few_d (z_few_k (z_few_k z_few_0)))))))))))))))) h
      · replace h := h.2 c
        refine Z_aload dX4_clearColumn_132 rfl ?_
        obtain ⟨g34, h⟩ := h
        refine Z_get (T := TX9) (N := 3) (ci := 9) (t := 0) 1 dX4_clearColumn_134 g34 (z_leN g34 (by decide)) rfl (by decide) inX9 (by decide) (flX4_69 rfl) rfl ?_
        refine Z_iconst dX4_clearColumn_137 ?_
        obtain ⟨g35, h⟩ := h
        refine Z_icmp_ge (tgt := 179) dX4_clearColumn_138 (by decide) g35 ⟨by decide, by decide⟩ (fun c => ?_) (fun c => ?_)
        · replace h := h.1 c
          refine Z_aload_n 0 dX4_clearColumn_179 rfl rfl ?_
          obtain ⟨g36, h⟩ := h
          refine Z_get (T := TX4) (N := 6) (ci := 4) (t := 2) 3 dX4_clearColumn_180 la_16 (z_leN la_16 (by decide)) rfl (by decide) inX4 (by decide) (flX4_25 rfl) rfl ?_
          refine Z_top (y := 22) ((Fix.get g36 la_16 3 6 (by decide +kernel)).trans (by clear h; omega)) ?_
          refine Z_aload dX4_clearColumn_183 rfl ?_
          refine Z_aload dX4_clearColumn_185 rfl ?_
          refine Z_invV (T := TX9) (N := 3) (ci := 9) (M' := mX9_multiply) (ρ' := rX9_multiply zN) (st := []) [(2, p5), (2, r3)] dX4_clearColumn_187 rfl rfl la_22 (z_leN la_22 (by decide)) (by decide) rfl rfl (kX9_multiply.cl (Nat.le_of_ble_eq_true rfl) (Nat.le_refl _) (Nat.le_refl _) (Nat.le_of_ble_eq_true rfl) (Nat.le_of_ble_eq_true rfl) (Nat.le_of_ble_eq_true rfl)) (mlX4_72 rfl) iX9_multiply sX9_multiply h (z_kv (fun σ38 h => ?_))
          refine Z_aload_n 0 dX4_clearColumn_190 rfl rfl ?_
          obtain ⟨g39, h⟩ := h
          refine Z_get (T := TX4) (N := 6) (ci := 4) (t := 2) 4 dX4_clearColumn_191 la_16 (z_leN la_16 (by decide)) rfl (by decide) inX4 (by decide) (flX4_28 rfl) rfl ?_
          refine Z_top (y := 24) ((Fix.get g39 la_16 4 8 (by decide +kernel)).trans (by clear h; omega)) ?_
          refine Z_aload dX4_clearColumn_194 rfl ?_
          refine Z_aload dX4_clearColumn_196 rfl ?_
          refine Z_invV (T := TX9) (N := 3) (ci := 9) (M' := mX9_multiply) (ρ' := rX9_multiply zN) (st := []) [(2, p9), (2, r5)] dX4_clearColumn_198 rfl rfl la_24 (z_leN la_24 (by decide)) (by decide) rfl rfl (kX9_multiply.cl (Nat.le_of_ble_eq_true rfl) (Nat.le_refl _) (Nat.le_refl _) (Nat.le_of_ble_eq_true rfl) (Nat.le_of_ble_eq_true rfl) (Nat.le_of_ble_eq_true rfl)) (mlX4_72 rfl) iX9_multiply sX9_multiply h (z_kv (fun σ41 h => ?_))
          refine Z_aload_n 0 dX4_clearColumn_201 rfl rfl ?_
          obtain ⟨g42, h⟩ := h
          refine Z_get (T := TX4) (N := 6) (ci := 4) (t := 2) 3 dX4_clearColumn_202 la_16 (z_leN la_16 (by decide)) rfl (by decide) inX4 (by decide) (flX4_25 rfl) rfl ?_
          refine Z_top (y := 22) ((Fix.get g42 la_16 3 6 (by decide +kernel)).trans (by clear h; omega)) ?_
          refine Z_aload_n 0 dX4_clearColumn_205 rfl rfl ?_
          refine Z_get (T := TX4) (N := 6) (ci := 4) (t := 2) 4 dX4_clearColumn_206 la_16 (z_leN la_16 (by decide)) rfl (by decide) inX4 (by decide) (flX4_28 rfl) rfl ?_
          refine Z_top (y := 24) ((Fix.get g42 la_16 4 8 (by decide +kernel)).trans (by clear h; omega)) ?_
          refine Z_iconst dX4_clearColumn_209 ?_
          refine Z_invV (T := TX9) (N := 3) (ci := 9) (M' := mX9_addTimes) (ρ' := rX9_addTimes zN) (st := []) [(2, 24), (0, (-1))] dX4_clearColumn_210 rfl rfl la_22 (z_leN la_22 (by decide)) (by decide) rfl rfl (kX9_addTimes.cl (Nat.le_of_ble_eq_true rfl) (Nat.le_refl _) (Nat.le_refl _) (Nat.le_of_ble_eq_true rfl) (Nat.le_of_ble_eq_true rfl) (Nat.le_of_ble_eq_true rfl)) (mlX4_76 rfl) iX9_addTimes sX9_addTimes h (z_kv (fun σ44 h => ?_))
          refine Z_aload_n 0 dX4_clearColumn_213 rfl rfl ?_
          obtain ⟨g45, h⟩ := h
          refine Z_get (T := TX4) (N := 6) (ci := 4) (t := 2) 5 dX4_clearColumn_214 la_16 (z_leN la_16 (by decide)) rfl (by decide) inX4 (by decide) (flX4_34 rfl) rfl ?_
          refine Z_top (y := 26) ((Fix.get g45 la_16 5 10 (by decide +kernel)).trans (by clear h; omega)) ?_
          refine Z_aload_n 0 dX4_clearColumn_217 rfl rfl ?_
          refine Z_get (T := TX4) (N := 6) (ci := 4) (t := 2) 3 dX4_clearColumn_218 la_16 (z_leN la_16 (by decide)) rfl (by decide) inX4 (by decide) (flX4_25 rfl) rfl ?_
          refine Z_top (y := 22) ((Fix.get g45 la_16 3 6 (by decide +kernel)).trans (by clear h; omega)) ?_
          refine Z_aload_n 0 dX4_clearColumn_221 rfl rfl ?_
          refine Z_get (T := TX4) (N := 6) (ci := 4) (t := 2) 2 dX4_clearColumn_222 la_16 (z_leN la_16 (by decide)) rfl (by decide) inX4 (by decide) (flX4_22 rfl) rfl ?_
          refine Z_top (y := 20) ((Fix.get g45 la_16 2 4 (by decide +kernel)).trans (by clear h; omega)) ?_
          refine Z_aload dX4_clearColumn_225 rfl ?_
          refine Z_invV (T := TX1) (N := 4) (ci := 1) (M' := mX1_divide) (ρ' := rX1_divide zN) (st := []) [(2, 22), (2, 20), (2, r3)] dX4_clearColumn_227 rfl rfl la_26 (z_leN la_26 (by decide)) (by decide) rfl rfl (kX1_divide.cl (Nat.le_of_ble_eq_true rfl) (Nat.le_refl _) (Nat.le_refl _) (Nat.le_of_ble_eq_true rfl) (Nat.le_of_ble_eq_true rfl) (Nat.le_of_ble_eq_true rfl)) (mlX4_80 rfl) iX1_divide sX1_divide h (z_kv (fun σ47 h => ?_))
          refine Z_iinc (L' := [(2, 16), (0, x1), (9, 0), (0, x3), (0, x4), (2, p5), (1, x6), (9, 0), (0, x8), (2, p9), (0, x10), (0, (x11 + 1)), (2, r3), (2, r5), (9, 0), (9, 0)]) dX4_clearColumn_230 rfl (Nat.le_of_ble_eq_true rfl) rfl ?_
          refine Z_goto (tgt := 92) dX4_clearColumn_233 (by decide) ?_
          exact Z_few (z_few_k (z_few_k (z_few_k (z_few_k (z_few_k (z_few_k (z_few_k (z_few_k (z_few_k (z_few_k (z_few_k (z_few_k (z_few_d (z_few_d (z_few_k (z_few_k z_few_0)))))))))))))))) h
        · replace h := h.2 c
          refine Z_aload dX4_clearColumn_141 rfl ?_
          refine Z_invV (T := TX9) (N := 3) (ci := 9) (M' := mX9_lowest) (ρ' := rX9_lowest zN) (st := []) [] dX4_clearColumn_143 rfl rfl hp5 (z_leN hp5 (by decide)) (by decide) rfl rfl (kX9_lowest.cl (Nat.le_of_ble_eq_true rfl) (Nat.le_refl _) (Nat.le_refl _) (Nat.le_of_ble_eq_true rfl) (Nat.le_of_ble_eq_true rfl) (Nat.le_of_ble_eq_true rfl)) (mlX4_65 rfl) iX9_lowest sX9_lowest h (z_kl (fun r48 σ49 h => ?_))
          refine Z_aload dX4_clearColumn_146 rfl ?_
          refine Z_invV (T := TX9) (N := 3) (ci := 9) (M' := mX9_lowest) (ρ' := rX9_lowest zN) (st := [(1, r48)]) [] dX4_clearColumn_148 rfl rfl g20 (z_leN g20 (by decide)) (by decide) rfl rfl (kX9_lowest.cl (Nat.le_of_ble_eq_true rfl) (Nat.le_refl _) (Nat.le_refl _) (Nat.le_of_ble_eq_true rfl) (Nat.le_of_ble_eq_true rfl) (Nat.le_of_ble_eq_true rfl)) (mlX4_65 rfl) iX9_lowest sX9_lowest h (z_kl (fun r50 σ51 h => ?_))
          refine Z_lmul dX4_clearColumn_151 ?_
          refine Z_aload dX4_clearColumn_152 rfl ?_
          refine Z_invV (T := TX9) (N := 3) (ci := 9) (M' := mX9_lowest) (ρ' := rX9_lowest zN) (st := [(1, (r48 * r50))]) [] dX4_clearColumn_154 rfl rfl hp9 (z_leN hp9 (by decide)) (by decide) rfl rfl (kX9_lowest.cl (Nat.le_of_ble_eq_true rfl) (Nat.le_refl _) (Nat.le_refl _) (Nat.le_of_ble_eq_true rfl) (Nat.le_of_ble_eq_true rfl) (Nat.le_of_ble_eq_true rfl)) (mlX4_65 rfl) iX9_lowest sX9_lowest h (z_kl (fun r52 σ53 h => ?_))
          refine Z_aload dX4_clearColumn_157 rfl ?_
          refine Z_invV (T := TX9) (N := 3) (ci := 9) (M' := mX9_lowest) (ρ' := rX9_lowest zN) (st := [(1, r52), (1, (r48 * r50))]) [] dX4_clearColumn_159 rfl rfl g34 (z_leN g34 (by decide)) (by decide) rfl rfl (kX9_lowest.cl (Nat.le_of_ble_eq_true rfl) (Nat.le_refl _) (Nat.le_refl _) (Nat.le_of_ble_eq_true rfl) (Nat.le_of_ble_eq_true rfl) (Nat.le_of_ble_eq_true rfl)) (mlX4_65 rfl) iX9_lowest sX9_lowest h (z_kl (fun r54 σ55 h => ?_))
          refine Z_lmul dX4_clearColumn_162 ?_
          refine Z_lsub dX4_clearColumn_163 ?_
          refine Z_lstore (L' := [(2, 16), (0, x1), (9, 0), (0, x3), (0, x4), (2, p5), (1, x6), (9, 0), (0, x8), (2, p9), (0, x10), (0, x11), (2, r3), (2, r5), (1, ((r48 * r50) - (r52 * r54))), (9, 0)]) dX4_clearColumn_164 (Nat.le_of_ble_eq_true rfl) rfl ?_
          refine Z_aload dX4_clearColumn_166 rfl ?_
          refine Z_lload dX4_clearColumn_168 rfl ?_
          refine Z_lload dX4_clearColumn_170 rfl ?_
          obtain ⟨g56, h⟩ := h
          obtain ⟨g57, h⟩ := h
          obtain ⟨g58, h⟩ := h
          refine Z_ldiv dX4_clearColumn_172 g56 g57 g58 ?_
          refine Z_invV (T := TX9) (N := 3) (ci := 9) (M' := mX9_put) (ρ' := rX9_put zN) (st := []) [(1, (Int.tdiv ((r48 * r50) - (r52 * r54)) x6))] dX4_clearColumn_173 rfl rfl g20 (z_leN g20 (by decide)) (by decide) rfl rfl (kX9_put.cl (Nat.le_of_ble_eq_true rfl) (Nat.le_refl _) (Nat.le_refl _) (Nat.le_of_ble_eq_true rfl) (Nat.le_of_ble_eq_true rfl) (Nat.le_of_ble_eq_true rfl)) (mlX4_42 rfl) iX9_put sX9_put h (z_kv (fun σ60 h => ?_))
          refine Z_goto (tgt := 230) dX4_clearColumn_176 (by decide) ?_
          refine Z_iinc (L' := [(2, 16), (0, x1), (9, 0), (0, x3), (0, x4), (2, p5), (1, x6), (9, 0), (0, x8), (2, p9), (0, x10), (0, (x11 + 1)), (2, r3), (2, r5), (1, ((r48 * r50) - (r52 * r54))), (9, 0)]) dX4_clearColumn_230 rfl (Nat.le_of_ble_eq_true rfl) rfl ?_
          refine Z_goto (tgt := 92) dX4_clearColumn_233 (by decide) ?_
          exact Z_few (z_few_k (z_few_k (z_few_k (z_few_k (z_few_k (z_few_k (z_few_k (z_few_k (z_few_k (z_few_k (z_few_k (z_few_k (z_few_d (z_few_d (z_few_d (z_few_k z_few_0)))))))))))))))) h
