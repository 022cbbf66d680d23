theorem bk_X12_init {X : ZS} {n : Nat} {n1 : Nat} {σ : ZM} {T : ZM → Prop} {p0 : Int} (hp0 : z_l p0 = (12, 30)) (h : (z_l ((n + 1 : Nat) : Int) = (21, 2112)) ∧ (n + 1 ≤ n1) ∧ (p0.toNat ≤ (n + 1)) ∧ (z_l (((n + 1) + 1 : Nat) : Int) = (20, 8)) ∧ ((n + 1) + 1 ≤ n1) ∧ (p0.toNat ≤ ((n + 1) + 1)) ∧ (z_l ((((n + 1) + 1) + 1 : Nat) : Int) = (20, 8)) ∧ (((n + 1) + 1) + 1 ≤ n1) ∧ (p0.toNat ≤ (((n + 1) + 1) + 1)) ∧ (z_l (((((n + 1) + 1) + 1) + 1 : Nat) : Int) = (21, 480)) ∧ ((((n + 1) + 1) + 1) + 1 ≤ n1) ∧ (p0.toNat ≤ ((((n + 1) + 1) + 1) + 1)) ∧ (z_l ((((((n + 1) + 1) + 1) + 1) + 1 : Nat) : Int) = (20, 8)) ∧ (((((n + 1) + 1) + 1) + 1) + 1 ≤ n1) ∧ (p0.toNat ≤ (((((n + 1) + 1) + 1) + 1) + 1)) ∧ (z_l (((((((n + 1) + 1) + 1) + 1) + 1) + 1 : Nat) : Int) = (20, 8)) ∧ ((((((n + 1) + 1) + 1) + 1) + 1) + 1 ≤ n1) ∧ (p0.toNat ≤ ((((((n + 1) + 1) + 1) + 1) + 1) + 1)) ∧ (z_l ((((((((n + 1) + 1) + 1) + 1) + 1) + 1) + 1 : Nat) : Int) = (20, 8)) ∧ (((((((n + 1) + 1) + 1) + 1) + 1) + 1) + 1 ≤ n1) ∧ (p0.toNat ≤ (((((((n + 1) + 1) + 1) + 1) + 1) + 1) + 1)) ∧ (z_l (((((((((n + 1) + 1) + 1) + 1) + 1) + 1) + 1) + 1 : Nat) : Int) = (20, 8)) ∧ ((((((((n + 1) + 1) + 1) + 1) + 1) + 1) + 1) + 1 ≤ n1) ∧ (p0.toNat ≤ ((((((((n + 1) + 1) + 1) + 1) + 1) + 1) + 1) + 1)) ∧ (z_l ((((((((((n + 1) + 1) + 1) + 1) + 1) + 1) + 1) + 1) + 1 : Nat) : Int) = (20, 486)) ∧ (((((((((n + 1) + 1) + 1) + 1) + 1) + 1) + 1) + 1) + 1 ≤ n1) ∧ (p0.toNat ≤ (((((((((n + 1) + 1) + 1) + 1) + 1) + 1) + 1) + 1) + 1)) ∧ (z_l (((((((((((n + 1) + 1) + 1) + 1) + 1) + 1) + 1) + 1) + 1) + 1 : Nat) : Int) = (21, 16)) ∧ ((((((((((n + 1) + 1) + 1) + 1) + 1) + 1) + 1) + 1) + 1) + 1 ≤ n1) ∧ (p0.toNat ≤ ((((((((((n + 1) + 1) + 1) + 1) + 1) + 1) + 1) + 1) + 1) + 1)) ∧ (z_l ((((((((((((n + 1) + 1) + 1) + 1) + 1) + 1) + 1) + 1) + 1) + 1) + 1 : Nat) : Int) = (21, 16)) ∧ (((((((((((n + 1) + 1) + 1) + 1) + 1) + 1) + 1) + 1) + 1) + 1) + 1 ≤ n1) ∧ (p0.toNat ≤ (((((((((((n + 1) + 1) + 1) + 1) + 1) + 1) + 1) + 1) + 1) + 1) + 1)) ∧ (z_l (((((((((((((n + 1) + 1) + 1) + 1) + 1) + 1) + 1) + 1) + 1) + 1) + 1) + 1 : Nat) : Int) = (21, 16)) ∧ ((((((((((((n + 1) + 1) + 1) + 1) + 1) + 1) + 1) + 1) + 1) + 1) + 1) + 1 ≤ n1) ∧ (p0.toNat ≤ ((((((((((((n + 1) + 1) + 1) + 1) + 1) + 1) + 1) + 1) + 1) + 1) + 1) + 1)) ∧ (z_l ((((((((((((((n + 1) + 1) + 1) + 1) + 1) + 1) + 1) + 1) + 1) + 1) + 1) + 1) + 1 : Nat) : Int) = (20, 10)) ∧ (((((((((((((n + 1) + 1) + 1) + 1) + 1) + 1) + 1) + 1) + 1) + 1) + 1) + 1) + 1 ≤ n1) ∧ (p0.toNat ≤ (((((((((((((n + 1) + 1) + 1) + 1) + 1) + 1) + 1) + 1) + 1) + 1) + 1) + 1) + 1)) ∧ (z_l (((((((((((((((n + 1) + 1) + 1) + 1) + 1) + 1) + 1) + 1) + 1) + 1) + 1) + 1) + 1) + 1 : Nat) : Int) = (20, 60)) ∧ ((((((((((((((n + 1) + 1) + 1) + 1) + 1) + 1) + 1) + 1) + 1) + 1) + 1) + 1) + 1) + 1 ≤ n1) ∧ (p0.toNat ≤ ((((((((((((((n + 1) + 1) + 1) + 1) + 1) + 1) + 1) + 1) + 1) + 1) + 1) + 1) + 1) + 1)) ∧ (z_l ((((((((((((((((n + 1) + 1) + 1) + 1) + 1) + 1) + 1) + 1) + 1) + 1) + 1) + 1) + 1) + 1) + 1 : Nat) : Int) = (20, 6)) ∧ (((((((((((((((n + 1) + 1) + 1) + 1) + 1) + 1) + 1) + 1) + 1) + 1) + 1) + 1) + 1) + 1) + 1 ≤ n1) ∧ (p0.toNat ≤ (((((((((((((((n + 1) + 1) + 1) + 1) + 1) + 1) + 1) + 1) + 1) + 1) + 1) + 1) + 1) + 1) + 1)) ∧ (z_l (((((((((((((((((n + 1) + 1) + 1) + 1) + 1) + 1) + 1) + 1) + 1) + 1) + 1) + 1) + 1) + 1) + 1) + 1 : Nat) : Int) = (20, 6)) ∧ ((((((((((((((((n + 1) + 1) + 1) + 1) + 1) + 1) + 1) + 1) + 1) + 1) + 1) + 1) + 1) + 1) + 1) + 1 ≤ n1) ∧ (p0.toNat ≤ ((((((((((((((((n + 1) + 1) + 1) + 1) + 1) + 1) + 1) + 1) + 1) + 1) + 1) + 1) + 1) + 1) + 1) + 1)) ∧ (z_l ((((((((((((((((((n + 1) + 1) + 1) + 1) + 1) + 1) + 1) + 1) + 1) + 1) + 1) + 1) + 1) + 1) + 1) + 1) + 1 : Nat) : Int) = (20, 8)) ∧ (((((((((((((((((n + 1) + 1) + 1) + 1) + 1) + 1) + 1) + 1) + 1) + 1) + 1) + 1) + 1) + 1) + 1) + 1) + 1 ≤ n1) ∧ (p0.toNat ≤ (((((((((((((((((n + 1) + 1) + 1) + 1) + 1) + 1) + 1) + 1) + 1) + 1) + 1) + 1) + 1) + 1) + 1) + 1) + 1)) ∧ (z_l (((((((((((((((((((n + 1) + 1) + 1) + 1) + 1) + 1) + 1) + 1) + 1) + 1) + 1) + 1) + 1) + 1) + 1) + 1) + 1) + 1 : Nat) : Int) = (22, 8)) ∧ ((((((((((((((((((n + 1) + 1) + 1) + 1) + 1) + 1) + 1) + 1) + 1) + 1) + 1) + 1) + 1) + 1) + 1) + 1) + 1) + 1 ≤ n1) ∧ (p0.toNat ≤ ((((((((((((((((((n + 1) + 1) + 1) + 1) + 1) + 1) + 1) + 1) + 1) + 1) + 1) + 1) + 1) + 1) + 1) + 1) + 1) + 1)) ∧ ZC X (rX12_set ((((((((((((((((((n + 1) + 1) + 1) + 1) + 1) + 1) + 1) + 1) + 1) + 1) + 1) + 1) + 1) + 1) + 1) + 1) + 1) + 1)) mX12_set [(2, p0), (0, 0), (1, 0)] ((((((((((((((((((n + 1) + 1) + 1) + 1) + 1) + 1) + 1) + 1) + 1) + 1) + 1) + 1) + 1) + 1) + 1) + 1) + 1) + 1) (z_up (z_new (z_up (z_new (z_up (z_new (z_up (z_new (z_up (z_new (z_up (z_new (z_up (z_new (z_up (z_new (z_up (z_new (z_up (z_up (z_up (z_new (z_up (z_new (z_up (z_new (z_up (z_new (z_up (z_new (z_up (z_new (z_up (z_new (z_up (z_new (z_up (z_new σ ((n + 1 : Nat) : Int)) p0 0 ((n + 1 : Nat) : Int)) (((n + 1) + 1 : Nat) : Int)) p0 1 (((n + 1) + 1 : Nat) : Int)) ((((n + 1) + 1) + 1 : Nat) : Int)) p0 2 ((((n + 1) + 1) + 1 : Nat) : Int)) (((((n + 1) + 1) + 1) + 1 : Nat) : Int)) p0 3 (((((n + 1) + 1) + 1) + 1 : Nat) : Int)) ((((((n + 1) + 1) + 1) + 1) + 1 : Nat) : Int)) p0 5 ((((((n + 1) + 1) + 1) + 1) + 1 : Nat) : Int)) (((((((n + 1) + 1) + 1) + 1) + 1) + 1 : Nat) : Int)) p0 6 (((((((n + 1) + 1) + 1) + 1) + 1) + 1 : Nat) : Int)) ((((((((n + 1) + 1) + 1) + 1) + 1) + 1) + 1 : Nat) : Int)) p0 7 ((((((((n + 1) + 1) + 1) + 1) + 1) + 1) + 1 : Nat) : Int)) (((((((((n + 1) + 1) + 1) + 1) + 1) + 1) + 1) + 1 : Nat) : Int)) p0 8 (((((((((n + 1) + 1) + 1) + 1) + 1) + 1) + 1) + 1 : Nat) : Int)) ((((((((((n + 1) + 1) + 1) + 1) + 1) + 1) + 1) + 1) + 1 : Nat) : Int)) p0 10 ((((((((((n + 1) + 1) + 1) + 1) + 1) + 1) + 1) + 1) + 1 : Nat) : Int)) p0 11 (-1)) p0 12 8) (((((((((((n + 1) + 1) + 1) + 1) + 1) + 1) + 1) + 1) + 1) + 1 : Nat) : Int)) p0 14 (((((((((((n + 1) + 1) + 1) + 1) + 1) + 1) + 1) + 1) + 1) + 1 : Nat) : Int)) ((((((((((((n + 1) + 1) + 1) + 1) + 1) + 1) + 1) + 1) + 1) + 1) + 1 : Nat) : Int)) p0 15 ((((((((((((n + 1) + 1) + 1) + 1) + 1) + 1) + 1) + 1) + 1) + 1) + 1 : Nat) : Int)) (((((((((((((n + 1) + 1) + 1) + 1) + 1) + 1) + 1) + 1) + 1) + 1) + 1) + 1 : Nat) : Int)) p0 16 (((((((((((((n + 1) + 1) + 1) + 1) + 1) + 1) + 1) + 1) + 1) + 1) + 1) + 1 : Nat) : Int)) ((((((((((((((n + 1) + 1) + 1) + 1) + 1) + 1) + 1) + 1) + 1) + 1) + 1) + 1) + 1 : Nat) : Int)) p0 21 ((((((((((((((n + 1) + 1) + 1) + 1) + 1) + 1) + 1) + 1) + 1) + 1) + 1) + 1) + 1 : Nat) : Int)) (((((((((((((((n + 1) + 1) + 1) + 1) + 1) + 1) + 1) + 1) + 1) + 1) + 1) + 1) + 1) + 1 : Nat) : Int)) p0 22 (((((((((((((((n + 1) + 1) + 1) + 1) + 1) + 1) + 1) + 1) + 1) + 1) + 1) + 1) + 1) + 1 : Nat) : Int)) ((((((((((((((((n + 1) + 1) + 1) + 1) + 1) + 1) + 1) + 1) + 1) + 1) + 1) + 1) + 1) + 1) + 1 : Nat) : Int)) p0 24 ((((((((((((((((n + 1) + 1) + 1) + 1) + 1) + 1) + 1) + 1) + 1) + 1) + 1) + 1) + 1) + 1) + 1 : Nat) : Int)) (((((((((((((((((n + 1) + 1) + 1) + 1) + 1) + 1) + 1) + 1) + 1) + 1) + 1) + 1) + 1) + 1) + 1) + 1 : Nat) : Int)) p0 25 (((((((((((((((((n + 1) + 1) + 1) + 1) + 1) + 1) + 1) + 1) + 1) + 1) + 1) + 1) + 1) + 1) + 1) + 1 : Nat) : Int)) ((((((((((((((((((n + 1) + 1) + 1) + 1) + 1) + 1) + 1) + 1) + 1) + 1) + 1) + 1) + 1) + 1) + 1) + 1) + 1 : Nat) : Int)) p0 27 ((((((((((((((((((n + 1) + 1) + 1) + 1) + 1) + 1) + 1) + 1) + 1) + 1) + 1) + 1) + 1) + 1) + 1) + 1) + 1 : Nat) : Int)) (((((((((((((((((((n + 1) + 1) + 1) + 1) + 1) + 1) + 1) + 1) + 1) + 1) + 1) + 1) + 1) + 1) + 1) + 1) + 1) + 1 : Nat) : Int)) p0 28 (((((((((((((((((((n + 1) + 1) + 1) + 1) + 1) + 1) + 1) + 1) + 1) + 1) + 1) + 1) + 1) + 1) + 1) + 1) + 1) + 1 : Nat) : Int)) (zQv (fun σ56 => ZC X (rX12_set ((((((((((((((((((n + 1) + 1) + 1) + 1) + 1) + 1) + 1) + 1) + 1) + 1) + 1) + 1) + 1) + 1) + 1) + 1) + 1) + 1)) mX12_set [(2, p0), (0, 1), (1, 1)] ((((((((((((((((((n + 1) + 1) + 1) + 1) + 1) + 1) + 1) + 1) + 1) + 1) + 1) + 1) + 1) + 1) + 1) + 1) + 1) + 1) σ56 (zQv (fun σ58 => (((((((((((((((((((n + 1) + 1) + 1) + 1) + 1) + 1) + 1) + 1) + 1) + 1) + 1) + 1) + 1) + 1) + 1) + 1) + 1) + 1) = n1) ∧ T σ58))))) : ZC X (rX12_init n1) mX12_init [(2, p0)] n σ (zQv T) := by
  show Z X _ _ 0 [(2, p0)] [] _ σ _
  refine Z_aload_n 0 dX12_init_0 rfl rfl ?_
  refine Z_objInit dX12_init_1 ((z_l_pos (by rw [hp0]; decide)).1) mlX12_3 ob_i ob_c (Nat.le_of_ble_eq_true rfl) (Nat.le_of_ble_eq_true rfl) (Nat.le_of_ble_eq_true rfl) ?_
  refine Z_aload_n 0 dX12_init_4 rfl rfl ?_
  refine Z_sipush dX12_init_5 (by decide) ?_
  obtain ⟨g1, h⟩ := h
  obtain ⟨g2, h⟩ := h
  refine Z_newJ dX12_init_8 ac_long g1 rfl g2 ?_
  obtain ⟨g3, h⟩ := h
  refine Z_put (T := TX12) (N := 30) (ci := 12) (t := 2) tyX12 0 dX12_init_10 hp0 g3 rfl (by decide) inX12 (by decide) (plX12_9 rfl rfl) rfl tyX12_ok nmX12 rfl (z_nf_a _ _) ?_
  refine Z_aload_n 0 dX12_init_13 rfl rfl ?_
  refine Z_bipush dX12_init_14 (by decide) ?_
  obtain ⟨g4, h⟩ := h
  obtain ⟨g5, h⟩ := h
  refine Z_newI dX12_init_16 ac_int g4 rfl g5 ?_
  obtain ⟨g6, h⟩ := h
  refine Z_put (T := TX12) (N := 30) (ci := 12) (t := 2) tyX12 1 dX12_init_18 hp0 g6 rfl (by decide) inX12 (by decide) (plX12_13 rfl rfl) rfl tyX12_ok nmX12 rfl (z_nf_a _ _) ?_
  refine Z_aload_n 0 dX12_init_21 rfl rfl ?_
  refine Z_bipush dX12_init_22 (by decide) ?_
  obtain ⟨g7, h⟩ := h
  obtain ⟨g8, h⟩ := h
  refine Z_newI dX12_init_24 ac_int g7 rfl g8 ?_
  obtain ⟨g9, h⟩ := h
  refine Z_put (T := TX12) (N := 30) (ci := 12) (t := 2) tyX12 2 dX12_init_26 hp0 g9 rfl (by decide) inX12 (by decide) (plX12_17 rfl rfl) rfl tyX12_ok nmX12 rfl (z_nf_a _ _) ?_
  refine Z_aload_n 0 dX12_init_29 rfl rfl ?_
  refine Z_sipush dX12_init_30 (by decide) ?_
  obtain ⟨g10, h⟩ := h
  obtain ⟨g11, h⟩ := h
  refine Z_newJ dX12_init_33 ac_long g10 rfl g11 ?_
  obtain ⟨g12, h⟩ := h
  refine Z_put (T := TX12) (N := 30) (ci := 12) (t := 2) tyX12 3 dX12_init_35 hp0 g12 rfl (by decide) inX12 (by decide) (plX12_20 rfl rfl) rfl tyX12_ok nmX12 rfl (z_nf_a _ _) ?_
  refine Z_aload_n 0 dX12_init_38 rfl rfl ?_
  refine Z_bipush dX12_init_39 (by decide) ?_
  obtain ⟨g13, h⟩ := h
  obtain ⟨g14, h⟩ := h
  refine Z_newI dX12_init_41 ac_int g13 rfl g14 ?_
  obtain ⟨g15, h⟩ := h
  refine Z_put (T := TX12) (N := 30) (ci := 12) (t := 2) tyX12 5 dX12_init_43 hp0 g15 rfl (by decide) inX12 (by decide) (plX12_23 rfl rfl) rfl tyX12_ok nmX12 rfl (z_nf_a _ _) ?_
  refine Z_aload_n 0 dX12_init_46 rfl rfl ?_
  refine Z_bipush dX12_init_47 (by decide) ?_
  obtain ⟨g16, h⟩ := h
  obtain ⟨g17, h⟩ := h
  refine Z_newI dX12_init_49 ac_int g16 rfl g17 ?_
  obtain ⟨g18, h⟩ := h
  refine Z_put (T := TX12) (N := 30) (ci := 12) (t := 2) tyX12 6 dX12_init_51 hp0 g18 rfl (by decide) inX12 (by decide) (plX12_26 rfl rfl) rfl tyX12_ok nmX12 rfl (z_nf_a _ _) ?_
  refine Z_aload_n 0 dX12_init_54 rfl rfl ?_
  refine Z_bipush dX12_init_55 (by decide) ?_
  obtain ⟨g19, h⟩ := h
  obtain ⟨g20, h⟩ := h
  refine Z_newI dX12_init_57 ac_int g19 rfl g20 ?_
  obtain ⟨g21, h⟩ := h
  refine Z_put (T := TX12) (N := 30) (ci := 12) (t := 2) tyX12 7 dX12_init_59 hp0 g21 rfl (by decide) inX12 (by decide) (plX12_29 rfl rfl) rfl tyX12_ok nmX12 rfl (z_nf_a _ _) ?_
  refine Z_aload_n 0 dX12_init_62 rfl rfl ?_
  refine Z_bipush dX12_init_63 (by decide) ?_
  obtain ⟨g22, h⟩ := h
  obtain ⟨g23, h⟩ := h
  refine Z_newI dX12_init_65 ac_int g22 rfl g23 ?_
  obtain ⟨g24, h⟩ := h
  refine Z_put (T := TX12) (N := 30) (ci := 12) (t := 2) tyX12 8 dX12_init_67 hp0 g24 rfl (by decide) inX12 (by decide) (plX12_32 rfl rfl) rfl tyX12_ok nmX12 rfl (z_nf_a _ _) ?_
  refine Z_aload_n 0 dX12_init_70 rfl rfl ?_
  refine Z_sipush dX12_init_71 (by decide) ?_
  obtain ⟨g25, h⟩ := h
  obtain ⟨g26, h⟩ := h
  refine Z_newI dX12_init_74 ac_int g25 rfl g26 ?_
  obtain ⟨g27, h⟩ := h
  refine Z_put (T := TX12) (N := 30) (ci := 12) (t := 2) tyX12 10 dX12_init_76 hp0 g27 rfl (by decide) inX12 (by decide) (plX12_35 rfl rfl) rfl tyX12_ok nmX12 rfl (z_nf_a _ _) ?_
  refine Z_aload_n 0 dX12_init_79 rfl rfl ?_
  refine Z_iconst dX12_init_80 ?_
  refine Z_put (T := TX12) (N := 30) (ci := 12) (t := 0) tyX12 11 dX12_init_81 hp0 g27 rfl (by decide) inX12 (by decide) (plX12_38 rfl) rfl tyX12_ok nmX12 rfl (z_nf_i _) ?_
  refine Z_aload_n 0 dX12_init_84 rfl rfl ?_
  refine Z_bipush dX12_init_85 (by decide) ?_
  refine Z_put (T := TX12) (N := 30) (ci := 12) (t := 0) tyX12 12 dX12_init_87 hp0 g27 rfl (by decide) inX12 (by decide) (plX12_42 rfl) rfl tyX12_ok nmX12 rfl (z_nf_i _) ?_
  refine Z_aload_n 0 dX12_init_90 rfl rfl ?_
  refine Z_bipush dX12_init_91 (by decide) ?_
  obtain ⟨g28, h⟩ := h
  obtain ⟨g29, h⟩ := h
  refine Z_newJ dX12_init_93 ac_long g28 rfl g29 ?_
  obtain ⟨g30, h⟩ := h
  refine Z_put (T := TX12) (N := 30) (ci := 12) (t := 2) tyX12 14 dX12_init_95 hp0 g30 rfl (by decide) inX12 (by decide) (plX12_45 rfl rfl) rfl tyX12_ok nmX12 rfl (z_nf_a _ _) ?_
  refine Z_aload_n 0 dX12_init_98 rfl rfl ?_
  refine Z_bipush dX12_init_99 (by decide) ?_
  obtain ⟨g31, h⟩ := h
  obtain ⟨g32, h⟩ := h
  refine Z_newJ dX12_init_101 ac_long g31 rfl g32 ?_
  obtain ⟨g33, h⟩ := h
  refine Z_put (T := TX12) (N := 30) (ci := 12) (t := 2) tyX12 15 dX12_init_103 hp0 g33 rfl (by decide) inX12 (by decide) (plX12_48 rfl rfl) rfl tyX12_ok nmX12 rfl (z_nf_a _ _) ?_
  refine Z_aload_n 0 dX12_init_106 rfl rfl ?_
  refine Z_bipush dX12_init_107 (by decide) ?_
  obtain ⟨g34, h⟩ := h
  obtain ⟨g35, h⟩ := h
  refine Z_newJ dX12_init_109 ac_long g34 rfl g35 ?_
  obtain ⟨g36, h⟩ := h
  refine Z_put (T := TX12) (N := 30) (ci := 12) (t := 2) tyX12 16 dX12_init_111 hp0 g36 rfl (by decide) inX12 (by decide) (plX12_51 rfl rfl) rfl tyX12_ok nmX12 rfl (z_nf_a _ _) ?_
  refine Z_aload_n 0 dX12_init_114 rfl rfl ?_
  refine Z_bipush dX12_init_115 (by decide) ?_
  obtain ⟨g37, h⟩ := h
  obtain ⟨g38, h⟩ := h
  refine Z_newI dX12_init_117 ac_int g37 rfl g38 ?_
  obtain ⟨g39, h⟩ := h
  refine Z_put (T := TX12) (N := 30) (ci := 12) (t := 2) tyX12 21 dX12_init_119 hp0 g39 rfl (by decide) inX12 (by decide) (plX12_54 rfl rfl) rfl tyX12_ok nmX12 rfl (z_nf_a _ _) ?_
  refine Z_aload_n 0 dX12_init_122 rfl rfl ?_
  refine Z_bipush dX12_init_123 (by decide) ?_
  obtain ⟨g40, h⟩ := h
  obtain ⟨g41, h⟩ := h
  refine Z_newI dX12_init_125 ac_int g40 rfl g41 ?_
  obtain ⟨g42, h⟩ := h
  refine Z_put (T := TX12) (N := 30) (ci := 12) (t := 2) tyX12 22 dX12_init_127 hp0 g42 rfl (by decide) inX12 (by decide) (plX12_57 rfl rfl) rfl tyX12_ok nmX12 rfl (z_nf_a _ _) ?_
  refine Z_aload_n 0 dX12_init_130 rfl rfl ?_
  refine Z_bipush dX12_init_131 (by decide) ?_
  obtain ⟨g43, h⟩ := h
  obtain ⟨g44, h⟩ := h
  refine Z_newI dX12_init_133 ac_int g43 rfl g44 ?_
  obtain ⟨g45, h⟩ := h
  refine Z_put (T := TX12) (N := 30) (ci := 12) (t := 2) tyX12 24 dX12_init_135 hp0 g45 rfl (by decide) inX12 (by decide) (plX12_60 rfl rfl) rfl tyX12_ok nmX12 rfl (z_nf_a _ _) ?_
  refine Z_aload_n 0 dX12_init_138 rfl rfl ?_
  refine Z_bipush dX12_init_139 (by decide) ?_
  obtain ⟨g46, h⟩ := h
  obtain ⟨g47, h⟩ := h
  refine Z_newI dX12_init_141 ac_int g46 rfl g47 ?_
  obtain ⟨g48, h⟩ := h
  refine Z_put (T := TX12) (N := 30) (ci := 12) (t := 2) tyX12 25 dX12_init_143 hp0 g48 rfl (by decide) inX12 (by decide) (plX12_63 rfl rfl) rfl tyX12_ok nmX12 rfl (z_nf_a _ _) ?_
  refine Z_aload_n 0 dX12_init_146 rfl rfl ?_
  refine Z_bipush dX12_init_147 (by decide) ?_
  obtain ⟨g49, h⟩ := h
  obtain ⟨g50, h⟩ := h
  refine Z_newI dX12_init_149 ac_int g49 rfl g50 ?_
  obtain ⟨g51, h⟩ := h
  refine Z_put (T := TX12) (N := 30) (ci := 12) (t := 2) tyX12 27 dX12_init_151 hp0 g51 rfl (by decide) inX12 (by decide) (plX12_66 rfl rfl) rfl tyX12_ok nmX12 rfl (z_nf_a _ _) ?_
  refine Z_aload_n 0 dX12_init_154 rfl rfl ?_
  refine Z_bipush dX12_init_155 (by decide) ?_
  obtain ⟨g52, h⟩ := h
  obtain ⟨g53, h⟩ := h
  refine Z_newZ dX12_init_157 ac_boolean g52 rfl g53 ?_
  obtain ⟨g54, h⟩ := h
  refine Z_put (T := TX12) (N := 30) (ci := 12) (t := 2) tyX12 28 dX12_init_159 hp0 g54 rfl (by decide) inX12 (by decide) (plX12_69 rfl rfl) rfl tyX12_ok nmX12 rfl (z_nf_a _ _) ?_
  refine Z_aload_n 0 dX12_init_162 rfl rfl ?_
  refine Z_iconst dX12_init_163 ?_
  refine Z_lconst (x := 0) dX12_init_164 rfl ?_
  refine Z_invV (T := TX12) (N := 30) (ci := 12) (M' := mX12_set) (ρ' := rX12_set ((((((((((((((((((n + 1) + 1) + 1) + 1) + 1) + 1) + 1) + 1) + 1) + 1) + 1) + 1) + 1) + 1) + 1) + 1) + 1) + 1)) (st := []) [(0, 0), (1, 0)] dX12_init_165 rfl rfl hp0 g54 (by decide) rfl rfl (kX12_set.cl (Nat.le_of_ble_eq_true rfl) (Nat.le_refl _) (by first | exact Nat.le_refl _ | omega) (Nat.le_of_ble_eq_true rfl) (Nat.le_of_ble_eq_true rfl) (Nat.le_of_ble_eq_true rfl)) (mlX12_73 rfl) iX12_set sX12_set h (z_kv (fun σ56 h => ?_))
  refine Z_aload_n 0 dX12_init_168 rfl rfl ?_
  refine Z_iconst dX12_init_169 ?_
  refine Z_lconst (x := 1) dX12_init_170 rfl ?_
  refine Z_invV (T := TX12) (N := 30) (ci := 12) (M' := mX12_set) (ρ' := rX12_set ((((((((((((((((((n + 1) + 1) + 1) + 1) + 1) + 1) + 1) + 1) + 1) + 1) + 1) + 1) + 1) + 1) + 1) + 1) + 1) + 1)) (st := []) [(0, 1), (1, 1)] dX12_init_171 rfl rfl hp0 g54 (by decide) rfl rfl (kX12_set.cl (Nat.le_of_ble_eq_true rfl) (Nat.le_refl _) (by first | exact Nat.le_refl _ | omega) (Nat.le_of_ble_eq_true rfl) (Nat.le_of_ble_eq_true rfl) (Nat.le_of_ble_eq_true rfl)) (mlX12_73 rfl) iX12_set sX12_set h (z_kv (fun σ58 h => ?_))
  obtain ⟨g59, h⟩ := h
  exact Z_return dX12_init_174 rfl g59 ⟨rfl, h⟩
theorem bk_X12_carry {X : ZS} {σ : ZM} {T : ZM → Prop} {x1 : Int} (h : Z X (rX12_carry zN) mX12_carry 2 [(2, 211), (0, x1), (0, 0), (9, 0), (9, 0)] [] zN σ (zQv T)) : ZC X (rX12_carry zN) mX12_carry [(2, 211), (0, x1)] zN σ (zQv T) := by
  show Z X _ _ 0 [(2, 211), (0, x1), (9, 0), (9, 0), (9, 0)] [] _ σ _
  refine Z_iconst dX12_carry_0 ?_
  refine Z_istore_n (L' := [(2, 211), (0, x1), (0, 0), (9, 0), (9, 0)]) 2 dX12_carry_1 rfl (Nat.le_of_ble_eq_true rfl) rfl ?_
  exact Z_few (z_few_k (z_few_k (z_few_k (z_few_k (z_few_k z_few_0))))) h
theorem bk_X12_carry_2 {X : ZS} {σ : ZM} {T : ZM → Prop} {x1 : Int} {x2 : Int} (h : (r32 x2) ∧ ((15 ≤ x2) → T σ) ∧ ((¬ (15 ≤ x2)) → (Fix σ) ∧ (0 ≤ ((16 * x1) + x2)) ∧ (((16 * x1) + x2) < 2112) ∧ (r64 (σ 212 ((16 * x1) + x2))) ∧ (0 ≤ (((16 * x1) + x2) + 1)) ∧ ((((16 * x1) + x2) + 1) < 2112) ∧ Z X (rX12_carry zN) mX12_carry 2 [(2, 211), (0, x1), (0, (x2 + 1)), (9, 0), (9, 0)] [] zN (z_up (z_up σ 212 ((16 * x1) + x2) ((σ 212 ((16 * x1) + x2)) % 1000000000)) 212 (((16 * x1) + x2) + 1) (((z_up σ 212 ((16 * x1) + x2) ((σ 212 ((16 * x1) + x2)) % 1000000000)) 212 (((16 * x1) + x2) + 1)) + ((σ 212 ((16 * x1) + x2)) / 1000000000))) (zQv T))) : Z X (rX12_carry zN) mX12_carry 2 [(2, 211), (0, x1), (0, x2), (9, 0), (9, 0)] [] zN σ (zQv T) := by
  refine Z_iload_n 2 dX12_carry_2 rfl rfl ?_
  refine Z_bipush dX12_carry_3 (by decide) ?_
  obtain ⟨g1, h⟩ := h
  refine Z_icmp_ge (tgt := 67) dX12_carry_5 (by decide) g1 ⟨by decide, by decide⟩ (fun c => ?_) (fun c => ?_)
  · replace h := h.1 c
    exact Z_return dX12_carry_67 rfl rfl ⟨rfl, h⟩
  · replace h := h.2 c
    refine Z_aload_n 0 dX12_carry_8 rfl rfl ?_
    obtain ⟨g2, h⟩ := h
    refine Z_get (T := TX12) (N := 30) (ci := 12) (t := 2) 0 dX12_carry_9 la_211 (z_leN la_211 (by decide)) rfl (by decide) inX12 (by decide) (flX12_9 rfl) rfl ?_
    refine Z_top (y := 212) ((Fix.get g2 la_211 0 1 (by decide +kernel)).trans (by clear h; omega)) ?_
    refine Z_bipush dX12_carry_12 (by decide) ?_
    refine Z_iload_n 1 dX12_carry_14 rfl rfl ?_
    refine Z_imul dX12_carry_15 ?_
    refine Z_iload_n 2 dX12_carry_16 rfl rfl ?_
    refine Z_iadd dX12_carry_17 ?_
    obtain ⟨g3, h⟩ := h
    obtain ⟨g4, h⟩ := h
    refine Z_lald dX12_carry_18 la_212 (z_leN la_212 (by decide)) g3 g4 ?_
    refine Z_lstore_n (L' := [(2, 211), (0, x1), (0, x2), (1, (σ 212 ((16 * x1) + x2))), (9, 0)]) 3 dX12_carry_19 rfl (Nat.le_of_ble_eq_true rfl) rfl ?_
    refine Z_aload_n 0 dX12_carry_20 rfl rfl ?_
    refine Z_get (T := TX12) (N := 30) (ci := 12) (t := 2) 0 dX12_carry_21 la_211 (z_leN la_211 (by decide)) rfl (by decide) inX12 (by decide) (flX12_9 rfl) rfl ?_
    refine Z_top (y := 212) ((Fix.get g2 la_211 0 1 (by decide +kernel)).trans (by clear h; omega)) ?_
    refine Z_bipush dX12_carry_24 (by decide) ?_
    refine Z_iload_n 1 dX12_carry_26 rfl rfl ?_
    refine Z_imul dX12_carry_27 ?_
    refine Z_iload_n 2 dX12_carry_28 rfl rfl ?_
    refine Z_iadd dX12_carry_29 ?_
    refine Z_lload_n 3 dX12_carry_30 rfl rfl ?_
    refine Z_ldc2 (x := 1000000000) dX12_carry_31 ctX12_77 rfl ?_
    obtain ⟨g5, h⟩ := h
    refine Z_jfm dX12_carry_34 (mlX12_79 rfl) g5 ⟨by decide, by decide⟩ (by decide) (Nat.le_refl _) (Nat.le_of_ble_eq_true rfl) (Nat.le_of_ble_eq_true rfl) (Nat.le_of_ble_eq_true rfl) ?_
    refine Z_last dX12_carry_37 la_212 (z_leN la_212 (by decide)) g3 g4 ?_
    refine Z_aload_n 0 dX12_carry_38 rfl rfl ?_
    refine Z_get (T := TX12) (N := 30) (ci := 12) (t := 2) 0 dX12_carry_39 la_211 (z_leN la_211 (by decide)) rfl (by decide) inX12 (by decide) (flX12_9 rfl) rfl ?_
    refine Z_top (y := 212) ((Fix.get (Fix.upA g2 la_212 (by decide)) la_211 0 1 (by decide +kernel)).trans (by clear h; omega)) ?_
    refine Z_bipush dX12_carry_42 (by decide) ?_
    refine Z_iload_n 1 dX12_carry_44 rfl rfl ?_
    refine Z_imul dX12_carry_45 ?_
    refine Z_iload_n 2 dX12_carry_46 rfl rfl ?_
    refine Z_iadd dX12_carry_47 ?_
    refine Z_iconst dX12_carry_48 ?_
    refine Z_iadd dX12_carry_49 ?_
    refine Z_dup2 dX12_carry_50 (by simp) (by simp) ?_
    obtain ⟨g6, h⟩ := h
    obtain ⟨g7, h⟩ := h
    refine Z_lald dX12_carry_51 la_212 (z_leN la_212 (by decide)) g6 g7 ?_
    refine Z_lload_n 3 dX12_carry_52 rfl rfl ?_
    refine Z_ldc2 (x := 1000000000) dX12_carry_53 ctX12_77 rfl ?_
    refine Z_jfd dX12_carry_56 (mlX12_85 rfl) g5 ⟨by decide, by decide⟩ (by decide) (Nat.le_refl _) (Nat.le_of_ble_eq_true rfl) (Nat.le_of_ble_eq_true rfl) (Nat.le_of_ble_eq_true rfl) ?_
    refine Z_ladd dX12_carry_59 ?_
    refine Z_last dX12_carry_60 la_212 (z_leN la_212 (by decide)) g6 g7 ?_
    refine Z_iinc (L' := [(2, 211), (0, x1), (0, (x2 + 1)), (1, (σ 212 ((16 * x1) + x2))), (9, 0)]) dX12_carry_61 rfl (Nat.le_of_ble_eq_true rfl) rfl ?_
    refine Z_goto (tgt := 2) dX12_carry_64 (by decide) ?_
    exact Z_few (z_few_k (z_few_k (z_few_k (z_few_d (z_few_k z_few_0))))) h
theorem bk_X12_set {X : ZS} {σ : ZM} {T : ZM → Prop} {x1 : Int} {x2 : Int} (h : Z X (rX12_set zN) mX12_set 3 [(2, 211), (0, x1), (1, x2), (9, 0), (0, 0)] [] zN σ (zQv T)) : ZC X (rX12_set zN) mX12_set [(2, 211), (0, x1), (1, x2)] zN σ (zQv T) := by
  show Z X _ _ 0 [(2, 211), (0, x1), (1, x2), (9, 0), (9, 0)] [] _ σ _
  refine Z_iconst dX12_set_0 ?_
  refine Z_istore (L' := [(2, 211), (0, x1), (1, x2), (9, 0), (0, 0)]) dX12_set_1 (Nat.le_of_ble_eq_true rfl) rfl ?_
  exact Z_few (z_few_k (z_few_k (z_few_k (z_few_k (z_few_k z_few_0))))) h
theorem bk_X12_set_3 {X : ZS} {σ : ZM} {T : ZM → Prop} {x1 : Int} {x2 : Int} {x4 : Int} (h : (r32 x4) ∧ ((16 ≤ x4) → ZC X (rX12_carry zN) mX12_carry [(2, 211), (0, x1)] zN σ (zQv (fun σ3 => T σ3))) ∧ ((¬ (16 ≤ x4)) → (Fix σ) ∧ ((¬ x4 = 0) → (0 ≤ ((16 * x1) + x4)) ∧ (((16 * x1) + x4) < 2112) ∧ Z X (rX12_set zN) mX12_set 3 [(2, 211), (0, x1), (1, x2), (9, 0), (0, (x4 + 1))] [] zN (z_up σ 212 ((16 * x1) + x4) 0) (zQv T)) ∧ ((x4 = 0) → (0 ≤ ((16 * x1) + x4)) ∧ (((16 * x1) + x4) < 2112) ∧ Z X (rX12_set zN) mX12_set 3 [(2, 211), (0, x1), (1, x2), (9, 0), (0, (x4 + 1))] [] zN (z_up σ 212 ((16 * x1) + x4) x2) (zQv T)))) : Z X (rX12_set zN) mX12_set 3 [(2, 211), (0, x1), (1, x2), (9, 0), (0, x4)] [] zN σ (zQv T) := by
  refine Z_iload dX12_set_3 rfl ?_
  refine Z_bipush dX12_set_5 (by decide) ?_
  obtain ⟨g1, h⟩ := h
  refine Z_icmp_ge (tgt := 38) dX12_set_7 (by decide) g1 ⟨by decide, by decide⟩ (fun c => ?_) (fun c => ?_)
  · replace h := h.1 c
    refine Z_aload_n 0 dX12_set_38 rfl rfl ?_
    refine Z_iload_n 1 dX12_set_39 rfl rfl ?_
    refine Z_invV (T := TX12) (N := 30) (ci := 12) (M' := mX12_carry) (ρ' := rX12_carry zN) (st := []) [(0, x1)] dX12_set_40 rfl rfl la_211 (z_leN la_211 (by decide)) (by decide) rfl rfl (kX12_carry.cl (Nat.le_of_ble_eq_true rfl) (Nat.le_refl _) (Nat.le_refl _) (Nat.le_of_ble_eq_true rfl) (Nat.le_of_ble_eq_true rfl) (Nat.le_of_ble_eq_true rfl)) (mlX12_88 rfl) iX12_carry sX12_carry h (z_kv (fun σ3 h => ?_))
    exact Z_return dX12_set_43 rfl rfl ⟨rfl, h⟩
  · replace h := h.2 c
    refine Z_aload_n 0 dX12_set_10 rfl rfl ?_
    obtain ⟨g4, h⟩ := h
    refine Z_get (T := TX12) (N := 30) (ci := 12) (t := 2) 0 dX12_set_11 la_211 (z_leN la_211 (by decide)) rfl (by decide) inX12 (by decide) (flX12_9 rfl) rfl ?_
    refine Z_top (y := 212) ((Fix.get g4 la_211 0 1 (by decide +kernel)).trans (by clear h; omega)) ?_
    refine Z_bipush dX12_set_14 (by decide) ?_
    refine Z_iload_n 1 dX12_set_16 rfl rfl ?_
    refine Z_imul dX12_set_17 ?_
    refine Z_iload dX12_set_18 rfl ?_
    refine Z_iadd dX12_set_20 ?_
    refine Z_iload dX12_set_21 rfl ?_
    refine Z_if_ne (tgt := 30) dX12_set_23 (by decide) g1 (fun c => ?_) (fun c => ?_)
    · replace h := h.1 c
      refine Z_lconst (x := 0) dX12_set_30 rfl ?_
      obtain ⟨g5, h⟩ := h
      obtain ⟨g6, h⟩ := h
      refine Z_last dX12_set_31 la_212 (z_leN la_212 (by decide)) g5 g6 ?_
      refine Z_iinc (L' := [(2, 211), (0, x1), (1, x2), (9, 0), (0, (x4 + 1))]) dX12_set_32 rfl (Nat.le_of_ble_eq_true rfl) rfl ?_
      refine Z_goto (tgt := 3) dX12_set_35 (by decide) ?_
      exact Z_few (z_few_k (z_few_k (z_few_k (z_few_k (z_few_k z_few_0))))) h
    · replace h := h.2 c
      refine Z_lload_n 2 dX12_set_26 rfl rfl ?_
      refine Z_goto (tgt := 31) dX12_set_27 (by decide) ?_
      obtain ⟨g7, h⟩ := h
      obtain ⟨g8, h⟩ := h
      refine Z_last dX12_set_31 la_212 (z_leN la_212 (by decide)) g7 g8 ?_
      refine Z_iinc (L' := [(2, 211), (0, x1), (1, x2), (9, 0), (0, (x4 + 1))]) dX12_set_32 rfl (Nat.le_of_ble_eq_true rfl) rfl ?_
      refine Z_goto (tgt := 3) dX12_set_35 (by decide) ?_
      exact Z_few (z_few_k (z_few_k (z_few_k (z_few_k (z_few_k z_few_0))))) h
theorem bk_X12_copy {X : ZS} {σ : ZM} {T : ZM → Prop} {x1 : Int} {x2 : Int} (h : Z X (rX12_copy zN) mX12_copy 2 [(2, 211), (0, x1), (0, x2), (0, 0)] [] zN σ (zQv T)) : ZC X (rX12_copy zN) mX12_copy [(2, 211), (0, x1), (0, x2)] zN σ (zQv T) := by
  show Z X _ _ 0 [(2, 211), (0, x1), (0, x2), (9, 0)] [] _ σ _
  refine Z_iconst dX12_copy_0 ?_
  refine Z_istore_n (L' := [(2, 211), (0, x1), (0, x2), (0, 0)]) 3 dX12_copy_1 rfl (Nat.le_of_ble_eq_true rfl) rfl ?_
  exact Z_few (z_few_k (z_few_k (z_few_k (z_few_k z_few_0)))) h
theorem bk_X12_copy_2 {X : ZS} {σ : ZM} {T : ZM → Prop} {x1 : Int} {x2 : Int} {x3 : Int} (h : (r32 x3) ∧ ((16 ≤ x3) → T σ) ∧ ((¬ (16 ≤ x3)) → (Fix σ) ∧ (0 ≤ ((16 * x2) + x3)) ∧ (((16 * x2) + x3) < 2112) ∧ (0 ≤ ((16 * x1) + x3)) ∧ (((16 * x1) + x3) < 2112) ∧ Z X (rX12_copy zN) mX12_copy 2 [(2, 211), (0, x1), (0, x2), (0, (x3 + 1))] [] zN (z_up σ 212 ((16 * x1) + x3) (σ 212 ((16 * x2) + x3))) (zQv T))) : Z X (rX12_copy zN) mX12_copy 2 [(2, 211), (0, x1), (0, x2), (0, x3)] [] zN σ (zQv T) := by
  refine Z_iload_n 3 dX12_copy_2 rfl rfl ?_
  refine Z_bipush dX12_copy_3 (by decide) ?_
  obtain ⟨g1, h⟩ := h
  refine Z_icmp_ge (tgt := 36) dX12_copy_5 (by decide) g1 ⟨by decide, by decide⟩ (fun c => ?_) (fun c => ?_)
  · replace h := h.1 c
    exact Z_return dX12_copy_36 rfl rfl ⟨rfl, h⟩
  · replace h := h.2 c
    refine Z_aload_n 0 dX12_copy_8 rfl rfl ?_
    obtain ⟨g2, h⟩ := h
    refine Z_get (T := TX12) (N := 30) (ci := 12) (t := 2) 0 dX12_copy_9 la_211 (z_leN la_211 (by decide)) rfl (by decide) inX12 (by decide) (flX12_9 rfl) rfl ?_
    refine Z_top (y := 212) ((Fix.get g2 la_211 0 1 (by decide +kernel)).trans (by clear h; omega)) ?_
    refine Z_bipush dX12_copy_12 (by decide) ?_
    refine Z_iload_n 1 dX12_copy_14 rfl rfl ?_
    refine Z_imul dX12_copy_15 ?_
    refine Z_iload_n 3 dX12_copy_16 rfl rfl ?_
    refine Z_iadd dX12_copy_17 ?_
    refine Z_aload_n 0 dX12_copy_18 rfl rfl ?_
    refine Z_get (T := TX12) (N := 30) (ci := 12) (t := 2) 0 dX12_copy_19 la_211 (z_leN la_211 (by decide)) rfl (by decide) inX12 (by decide) (flX12_9 rfl) rfl ?_
    refine Z_top (y := 212) ((Fix.get g2 la_211 0 1 (by decide +kernel)).trans (by clear h; omega)) ?_
    refine Z_bipush dX12_copy_22 (by decide) ?_
    refine Z_iload_n 2 dX12_copy_24 rfl rfl ?_
    refine Z_imul dX12_copy_25 ?_
    refine Z_iload_n 3 dX12_copy_26 rfl rfl ?_
    refine Z_iadd dX12_copy_27 ?_
    obtain ⟨g3, h⟩ := h
    obtain ⟨g4, h⟩ := h
    refine Z_lald dX12_copy_28 la_212 (z_leN la_212 (by decide)) g3 g4 ?_
    obtain ⟨g5, h⟩ := h
    obtain ⟨g6, h⟩ := h
    refine Z_last dX12_copy_29 la_212 (z_leN la_212 (by decide)) g5 g6 ?_
    refine Z_iinc (L' := [(2, 211), (0, x1), (0, x2), (0, (x3 + 1))]) dX12_copy_30 rfl (Nat.le_of_ble_eq_true rfl) rfl ?_
    refine Z_goto (tgt := 2) dX12_copy_33 (by decide) ?_
    exact Z_few (z_few_k (z_few_k (z_few_k (z_few_k z_few_0)))) h
theorem bk_X12_more {X : ZS} {σ : ZM} {T : ZM → Prop} {x1 : Int} {x2 : Int} {x3 : Int} (h : Z X (rX12_more zN) mX12_more 3 [(2, 211), (0, x1), (0, x2), (1, x3), (9, 0), (0, 0)] [] zN σ (zQv T)) : ZC X (rX12_more zN) mX12_more [(2, 211), (0, x1), (0, x2), (1, x3)] zN σ (zQv T) := by
  show Z X _ _ 0 [(2, 211), (0, x1), (0, x2), (1, x3), (9, 0), (9, 0)] [] _ σ _
  refine Z_iconst dX12_more_0 ?_
  refine Z_istore (L' := [(2, 211), (0, x1), (0, x2), (1, x3), (9, 0), (0, 0)]) dX12_more_1 (Nat.le_of_ble_eq_true rfl) rfl ?_
  exact Z_few (z_few_k (z_few_k (z_few_k (z_few_k (z_few_k (z_few_k z_few_0)))))) h
theorem bk_X12_more_3 {X : ZS} {σ : ZM} {T : ZM → Prop} {x1 : Int} {x2 : Int} {x3 : Int} {x5 : Int} (h : (r32 x5) ∧ ((16 ≤ x5) → ZC X (rX12_carry zN) mX12_carry [(2, 211), (0, x1)] zN σ (zQv (fun σ3 => T σ3))) ∧ ((¬ (16 ≤ x5)) → (Fix σ) ∧ (0 ≤ ((16 * x1) + x5)) ∧ (((16 * x1) + x5) < 2112) ∧ (0 ≤ ((16 * x2) + x5)) ∧ (((16 * x2) + x5) < 2112) ∧ Z X (rX12_more zN) mX12_more 3 [(2, 211), (0, x1), (0, x2), (1, x3), (9, 0), (0, (x5 + 1))] [] zN (z_up σ 212 ((16 * x1) + x5) ((σ 212 ((16 * x1) + x5)) + ((σ 212 ((16 * x2) + x5)) * x3))) (zQv T))) : Z X (rX12_more zN) mX12_more 3 [(2, 211), (0, x1), (0, x2), (1, x3), (9, 0), (0, x5)] [] zN σ (zQv T) := by
  refine Z_iload dX12_more_3 rfl ?_
  refine Z_bipush dX12_more_5 (by decide) ?_
  obtain ⟨g1, h⟩ := h
  refine Z_icmp_ge (tgt := 45) dX12_more_7 (by decide) g1 ⟨by decide, by decide⟩ (fun c => ?_) (fun c => ?_)
  · replace h := h.1 c
    refine Z_aload_n 0 dX12_more_45 rfl rfl ?_
    refine Z_iload_n 1 dX12_more_46 rfl rfl ?_
    refine Z_invV (T := TX12) (N := 30) (ci := 12) (M' := mX12_carry) (ρ' := rX12_carry zN) (st := []) [(0, x1)] dX12_more_47 rfl rfl la_211 (z_leN la_211 (by decide)) (by decide) rfl rfl (kX12_carry.cl (Nat.le_of_ble_eq_true rfl) (Nat.le_refl _) (Nat.le_refl _) (Nat.le_of_ble_eq_true rfl) (Nat.le_of_ble_eq_true rfl) (Nat.le_of_ble_eq_true rfl)) (mlX12_88 rfl) iX12_carry sX12_carry h (z_kv (fun σ3 h => ?_))
    exact Z_return dX12_more_50 rfl rfl ⟨rfl, h⟩
  · replace h := h.2 c
    refine Z_aload_n 0 dX12_more_10 rfl rfl ?_
    obtain ⟨g4, h⟩ := h
    refine Z_get (T := TX12) (N := 30) (ci := 12) (t := 2) 0 dX12_more_11 la_211 (z_leN la_211 (by decide)) rfl (by decide) inX12 (by decide) (flX12_9 rfl) rfl ?_
    refine Z_top (y := 212) ((Fix.get g4 la_211 0 1 (by decide +kernel)).trans (by clear h; omega)) ?_
    refine Z_bipush dX12_more_14 (by decide) ?_
    refine Z_iload_n 1 dX12_more_16 rfl rfl ?_
    refine Z_imul dX12_more_17 ?_
    refine Z_iload dX12_more_18 rfl ?_
    refine Z_iadd dX12_more_20 ?_
    refine Z_dup2 dX12_more_21 (by simp) (by simp) ?_
    obtain ⟨g5, h⟩ := h
    obtain ⟨g6, h⟩ := h
    refine Z_lald dX12_more_22 la_212 (z_leN la_212 (by decide)) g5 g6 ?_
    refine Z_aload_n 0 dX12_more_23 rfl rfl ?_
    refine Z_get (T := TX12) (N := 30) (ci := 12) (t := 2) 0 dX12_more_24 la_211 (z_leN la_211 (by decide)) rfl (by decide) inX12 (by decide) (flX12_9 rfl) rfl ?_
    refine Z_top (y := 212) ((Fix.get g4 la_211 0 1 (by decide +kernel)).trans (by clear h; omega)) ?_
    refine Z_bipush dX12_more_27 (by decide) ?_
    refine Z_iload_n 2 dX12_more_29 rfl rfl ?_
    refine Z_imul dX12_more_30 ?_
    refine Z_iload dX12_more_31 rfl ?_
    refine Z_iadd dX12_more_33 ?_
    obtain ⟨g7, h⟩ := h
    obtain ⟨g8, h⟩ := h
    refine Z_lald dX12_more_34 la_212 (z_leN la_212 (by decide)) g7 g8 ?_
    refine Z_lload_n 3 dX12_more_35 rfl rfl ?_
    refine Z_lmul dX12_more_36 ?_
    refine Z_ladd dX12_more_37 ?_
    refine Z_last dX12_more_38 la_212 (z_leN la_212 (by decide)) g5 g6 ?_
    refine Z_iinc (L' := [(2, 211), (0, x1), (0, x2), (1, x3), (9, 0), (0, (x5 + 1))]) dX12_more_39 rfl (Nat.le_of_ble_eq_true rfl) rfl ?_
    refine Z_goto (tgt := 3) dX12_more_42 (by decide) ?_
    exact Z_few (z_few_k (z_few_k (z_few_k (z_few_k (z_few_k (z_few_k z_few_0)))))) h
theorem bk_X12_isBelow {X : ZS} {σ : ZM} {T : Bool → ZM → Prop} {x1 : Int} (h : (Fix σ) ∧ (0 ≤ (((16 * x1) + 16) - 1)) ∧ ((((16 * x1) + 16) - 1) < 2112) ∧ (r64 (σ 212 (((16 * x1) + 16) - 1))) ∧ ((0 ≤ (σ 212 (((16 * x1) + 16) - 1))) → T false σ) ∧ ((¬ (0 ≤ (σ 212 (((16 * x1) + 16) - 1)))) → T true σ)) : ZC X (rX12_isBelow zN) mX12_isBelow [(2, 211), (0, x1)] zN σ (zQz T) := by
  show Z X _ _ 0 [(2, 211), (0, x1)] [] _ σ _
  refine Z_aload_n 0 dX12_isBelow_0 rfl rfl ?_
  obtain ⟨g1, h⟩ := h
  refine Z_get (T := TX12) (N := 30) (ci := 12) (t := 2) 0 dX12_isBelow_1 la_211 (z_leN la_211 (by decide)) rfl (by decide) inX12 (by decide) (flX12_9 rfl) rfl ?_
  refine Z_top (y := 212) ((Fix.get g1 la_211 0 1 (by decide +kernel)).trans (by clear h; omega)) ?_
  refine Z_bipush dX12_isBelow_4 (by decide) ?_
  refine Z_iload_n 1 dX12_isBelow_6 rfl rfl ?_
  refine Z_imul dX12_isBelow_7 ?_
  refine Z_bipush dX12_isBelow_8 (by decide) ?_
  refine Z_iadd dX12_isBelow_10 ?_
  refine Z_iconst dX12_isBelow_11 ?_
  refine Z_isub dX12_isBelow_12 ?_
  obtain ⟨g2, h⟩ := h
  obtain ⟨g3, h⟩ := h
  refine Z_lald dX12_isBelow_13 la_212 (z_leN la_212 (by decide)) g2 g3 ?_
  refine Z_lconst (x := 0) dX12_isBelow_14 rfl ?_
  obtain ⟨g4, h⟩ := h
  refine Z_lc_ge (tgt := 23) dX12_isBelow_15 dX12_isBelow_16 (by decide) g4 ⟨by decide, by decide⟩ (fun c => ?_) (fun c => ?_)
  · replace h := h.1 c
    refine Z_iconst dX12_isBelow_23 ?_
    exact Z_zreturn dX12_isBelow_24 rfl (Or.inl rfl) rfl ⟨rfl, false, rfl, h⟩
  · replace h := h.2 c
    refine Z_iconst dX12_isBelow_19 ?_
    refine Z_goto (tgt := 24) dX12_isBelow_20 (by decide) ?_
    exact Z_zreturn dX12_isBelow_24 rfl (Or.inr rfl) rfl ⟨rfl, true, rfl, h⟩
theorem bk_X12_isZero {X : ZS} {σ : ZM} {T : Bool → ZM → Prop} {x1 : Int} (h : Z X (rX12_isZero zN) mX12_isZero 2 [(2, 211), (0, x1), (0, 0)] [] zN σ (zQz T)) : ZC X (rX12_isZero zN) mX12_isZero [(2, 211), (0, x1)] zN σ (zQz T) := by
  show Z X _ _ 0 [(2, 211), (0, x1), (9, 0)] [] _ σ _
  refine Z_iconst dX12_isZero_0 ?_
  refine Z_istore_n (L' := [(2, 211), (0, x1), (0, 0)]) 2 dX12_isZero_1 rfl (Nat.le_of_ble_eq_true rfl) rfl ?_
  exact Z_few (z_few_k (z_few_k (z_few_k z_few_0))) h
theorem bk_X12_isZero_2 {X : ZS} {σ : ZM} {T : Bool → ZM → Prop} {x1 : Int} {x2 : Int} (h : (r32 x2) ∧ ((16 ≤ x2) → T true σ) ∧ ((¬ (16 ≤ x2)) → (Fix σ) ∧ (0 ≤ ((16 * x1) + x2)) ∧ (((16 * x1) + x2) < 2112) ∧ (r64 (σ 212 ((16 * x1) + x2))) ∧ (((σ 212 ((16 * x1) + x2)) = 0) → Z X (rX12_isZero zN) mX12_isZero 2 [(2, 211), (0, x1), (0, (x2 + 1))] [] zN σ (zQz T)) ∧ ((¬ (σ 212 ((16 * x1) + x2)) = 0) → T false σ))) : Z X (rX12_isZero zN) mX12_isZero 2 [(2, 211), (0, x1), (0, x2)] [] zN σ (zQz T) := by
  refine Z_iload_n 2 dX12_isZero_2 rfl rfl ?_
  refine Z_bipush dX12_isZero_3 (by decide) ?_
  obtain ⟨g1, h⟩ := h
  refine Z_icmp_ge (tgt := 32) dX12_isZero_5 (by decide) g1 ⟨by decide, by decide⟩ (fun c => ?_) (fun c => ?_)
  · replace h := h.1 c
    refine Z_iconst dX12_isZero_32 ?_
    exact Z_zreturn dX12_isZero_33 rfl (Or.inr rfl) rfl ⟨rfl, true, rfl, h⟩
  · replace h := h.2 c
    refine Z_aload_n 0 dX12_isZero_8 rfl rfl ?_
    obtain ⟨g2, h⟩ := h
    refine Z_get (T := TX12) (N := 30) (ci := 12) (t := 2) 0 dX12_isZero_9 la_211 (z_leN la_211 (by decide)) rfl (by decide) inX12 (by decide) (flX12_9 rfl) rfl ?_
    refine Z_top (y := 212) ((Fix.get g2 la_211 0 1 (by decide +kernel)).trans (by clear h; omega)) ?_
    refine Z_bipush dX12_isZero_12 (by decide) ?_
    refine Z_iload_n 1 dX12_isZero_14 rfl rfl ?_
    refine Z_imul dX12_isZero_15 ?_
    refine Z_iload_n 2 dX12_isZero_16 rfl rfl ?_
    refine Z_iadd dX12_isZero_17 ?_
    obtain ⟨g3, h⟩ := h
    obtain ⟨g4, h⟩ := h
    refine Z_lald dX12_isZero_18 la_212 (z_leN la_212 (by decide)) g3 g4 ?_
    refine Z_lconst (x := 0) dX12_isZero_19 rfl ?_
    obtain ⟨g5, h⟩ := h
    refine Z_lc_eq (tgt := 26) dX12_isZero_20 dX12_isZero_21 (by decide) g5 ⟨by decide, by decide⟩ (fun c => ?_) (fun c => ?_)
    · replace h := h.1 c
      refine Z_iinc (L' := [(2, 211), (0, x1), (0, (x2 + 1))]) dX12_isZero_26 rfl (Nat.le_of_ble_eq_true rfl) rfl ?_
      refine Z_goto (tgt := 2) dX12_isZero_29 (by decide) ?_
      exact Z_few (z_few_k (z_few_k (z_few_k z_few_0))) h
    · replace h := h.2 c
      refine Z_iconst dX12_isZero_24 ?_
      exact Z_zreturn dX12_isZero_25 rfl (Or.inl rfl) rfl ⟨rfl, false, rfl, h⟩
theorem bk_X12_turn {X : ZS} {σ : ZM} {T : ZM → Prop} {x1 : Int} (h : Z X (rX12_turn zN) mX12_turn 2 [(2, 211), (0, x1), (0, 0)] [] zN σ (zQv T)) : ZC X (rX12_turn zN) mX12_turn [(2, 211), (0, x1)] zN σ (zQv T) := by
  show Z X _ _ 0 [(2, 211), (0, x1), (9, 0)] [] _ σ _
  refine Z_iconst dX12_turn_0 ?_
  refine Z_istore_n (L' := [(2, 211), (0, x1), (0, 0)]) 2 dX12_turn_1 rfl (Nat.le_of_ble_eq_true rfl) rfl ?_
  exact Z_few (z_few_k (z_few_k (z_few_k z_few_0))) h
theorem bk_X12_turn_2 {X : ZS} {σ : ZM} {T : ZM → Prop} {x1 : Int} {x2 : Int} (h : (r32 x2) ∧ ((16 ≤ x2) → ZC X (rX12_carry zN) mX12_carry [(2, 211), (0, x1)] zN σ (zQv (fun σ3 => T σ3))) ∧ ((¬ (16 ≤ x2)) → (Fix σ) ∧ (0 ≤ ((16 * x1) + x2)) ∧ (((16 * x1) + x2) < 2112) ∧ Z X (rX12_turn zN) mX12_turn 2 [(2, 211), (0, x1), (0, (x2 + 1))] [] zN (z_up σ 212 ((16 * x1) + x2) (-(σ 212 ((16 * x1) + x2)))) (zQv T))) : Z X (rX12_turn zN) mX12_turn 2 [(2, 211), (0, x1), (0, x2)] [] zN σ (zQv T) := by
  refine Z_iload_n 2 dX12_turn_2 rfl rfl ?_
  refine Z_bipush dX12_turn_3 (by decide) ?_
  obtain ⟨g1, h⟩ := h
  refine Z_icmp_ge (tgt := 37) dX12_turn_5 (by decide) g1 ⟨by decide, by decide⟩ (fun c => ?_) (fun c => ?_)
  · replace h := h.1 c
    refine Z_aload_n 0 dX12_turn_37 rfl rfl ?_
    refine Z_iload_n 1 dX12_turn_38 rfl rfl ?_
    refine Z_invV (T := TX12) (N := 30) (ci := 12) (M' := mX12_carry) (ρ' := rX12_carry zN) (st := []) [(0, x1)] dX12_turn_39 rfl rfl la_211 (z_leN la_211 (by decide)) (by decide) rfl rfl (kX12_carry.cl (Nat.le_of_ble_eq_true rfl) (Nat.le_refl _) (Nat.le_refl _) (Nat.le_of_ble_eq_true rfl) (Nat.le_of_ble_eq_true rfl) (Nat.le_of_ble_eq_true rfl)) (mlX12_88 rfl) iX12_carry sX12_carry h (z_kv (fun σ3 h => ?_))
    exact Z_return dX12_turn_42 rfl rfl ⟨rfl, h⟩
  · replace h := h.2 c
    refine Z_aload_n 0 dX12_turn_8 rfl rfl ?_
    obtain ⟨g4, h⟩ := h
    refine Z_get (T := TX12) (N := 30) (ci := 12) (t := 2) 0 dX12_turn_9 la_211 (z_leN la_211 (by decide)) rfl (by decide) inX12 (by decide) (flX12_9 rfl) rfl ?_
    refine Z_top (y := 212) ((Fix.get g4 la_211 0 1 (by decide +kernel)).trans (by clear h; omega)) ?_
    refine Z_bipush dX12_turn_12 (by decide) ?_
    refine Z_iload_n 1 dX12_turn_14 rfl rfl ?_
    refine Z_imul dX12_turn_15 ?_
    refine Z_iload_n 2 dX12_turn_16 rfl rfl ?_
    refine Z_iadd dX12_turn_17 ?_
    refine Z_aload_n 0 dX12_turn_18 rfl rfl ?_
    refine Z_get (T := TX12) (N := 30) (ci := 12) (t := 2) 0 dX12_turn_19 la_211 (z_leN la_211 (by decide)) rfl (by decide) inX12 (by decide) (flX12_9 rfl) rfl ?_
    refine Z_top (y := 212) ((Fix.get g4 la_211 0 1 (by decide +kernel)).trans (by clear h; omega)) ?_
    refine Z_bipush dX12_turn_22 (by decide) ?_
    refine Z_iload_n 1 dX12_turn_24 rfl rfl ?_
    refine Z_imul dX12_turn_25 ?_
    refine Z_iload_n 2 dX12_turn_26 rfl rfl ?_
    refine Z_iadd dX12_turn_27 ?_
    obtain ⟨g5, h⟩ := h
    obtain ⟨g6, h⟩ := h
    refine Z_lald dX12_turn_28 la_212 (z_leN la_212 (by decide)) g5 g6 ?_
    refine Z_lneg dX12_turn_29 ?_
    refine Z_last dX12_turn_30 la_212 (z_leN la_212 (by decide)) g5 g6 ?_
    refine Z_iinc (L' := [(2, 211), (0, x1), (0, (x2 + 1))]) dX12_turn_31 rfl (Nat.le_of_ble_eq_true rfl) rfl ?_
    refine Z_goto (tgt := 2) dX12_turn_34 (by decide) ?_
    exact Z_few (z_few_k (z_few_k (z_few_k z_few_0))) h
theorem bk_X12_sign {X : ZS} {σ : ZM} {T : Int → ZM → Prop} {x1 : Int} (h : ZC X (rX12_isZero zN) mX12_isZero [(2, 211), (0, x1)] zN σ (zQz (fun r1 σ2 => ((r1 = false) → ZC X (rX12_isBelow zN) mX12_isBelow [(2, 211), (0, x1)] zN σ2 (zQz (fun r3 σ4 => ((r3 = false) → T 1 σ4) ∧ ((r3 = true) → T (-1) σ4)))) ∧ ((r1 = true) → T 0 σ2)))) : ZC X (rX12_sign zN) mX12_sign [(2, 211), (0, x1)] zN σ (zQi T) := by
  show Z X _ _ 0 [(2, 211), (0, x1)] [] _ σ _
  refine Z_aload_n 0 dX12_sign_0 rfl rfl ?_
  refine Z_iload_n 1 dX12_sign_1 rfl rfl ?_
  refine Z_invV (T := TX12) (N := 30) (ci := 12) (M' := mX12_isZero) (ρ' := rX12_isZero zN) (st := []) [(0, x1)] dX12_sign_2 rfl rfl la_211 (z_leN la_211 (by decide)) (by decide) rfl rfl (kX12_isZero.cl (Nat.le_of_ble_eq_true rfl) (Nat.le_refl _) (Nat.le_refl _) (Nat.le_of_ble_eq_true rfl) (Nat.le_of_ble_eq_true rfl) (Nat.le_of_ble_eq_true rfl)) (mlX12_92 rfl) iX12_isZero sX12_isZero h (z_kz (fun r1 σ2 h => ?_))
  refine Z_zif_eq (tgt := 12) dX12_sign_5 (by decide) (fun c => ?_) (fun c => ?_)
  · replace h := h.1 c
    refine Z_aload_n 0 dX12_sign_12 rfl rfl ?_
    refine Z_iload_n 1 dX12_sign_13 rfl rfl ?_
    refine Z_invV (T := TX12) (N := 30) (ci := 12) (M' := mX12_isBelow) (ρ' := rX12_isBelow zN) (st := []) [(0, x1)] dX12_sign_14 rfl rfl la_211 (z_leN la_211 (by decide)) (by decide) rfl rfl (kX12_isBelow.cl (Nat.le_of_ble_eq_true rfl) (Nat.le_refl _) (Nat.le_refl _) (Nat.le_of_ble_eq_true rfl) (Nat.le_of_ble_eq_true rfl) (Nat.le_of_ble_eq_true rfl)) (mlX12_96 rfl) iX12_isBelow sX12_isBelow h (z_kz (fun r3 σ4 h => ?_))
    refine Z_zif_eq (tgt := 24) dX12_sign_17 (by decide) (fun c => ?_) (fun c => ?_)
    · replace h := h.1 c
      refine Z_iconst dX12_sign_24 ?_
      exact Z_ireturn dX12_sign_25 rfl rfl ⟨rfl, h⟩
    · replace h := h.2 c
      refine Z_iconst dX12_sign_20 ?_
      refine Z_goto (tgt := 25) dX12_sign_21 (by decide) ?_
      exact Z_ireturn dX12_sign_25 rfl rfl ⟨rfl, h⟩
  · replace h := h.2 c
    refine Z_iconst dX12_sign_8 ?_
    refine Z_goto (tgt := 25) dX12_sign_9 (by decide) ?_
    exact Z_ireturn dX12_sign_25 rfl rfl ⟨rfl, h⟩
theorem bk_X12_bare {X : ZS} {σ : ZM} {T : ZM → Prop} {x1 : Int} {p2 : Int} (hp2 : z_l p2 = (21, 16)) (h : ZC X (rX12_isBelow zN) mX12_isBelow [(2, 211), (0, x1)] zN σ (zQz (fun r1 σ2 => ((r1 = false) → Z X (rX12_bare zN) mX12_bare 18 [(2, 211), (0, x1), (2, p2), (0, (zb r1)), (0, 0)] [] zN σ2 (zQv T)) ∧ ((r1 = true) → ZC X (rX12_turn zN) mX12_turn [(2, 211), (0, x1)] zN σ2 (zQv (fun σ4 => Z X (rX12_bare zN) mX12_bare 18 [(2, 211), (0, x1), (2, p2), (0, (zb r1)), (0, 0)] [] zN σ4 (zQv T))))))) : ZC X (rX12_bare zN) mX12_bare [(2, 211), (0, x1), (2, p2)] zN σ (zQv T) := by
  show Z X _ _ 0 [(2, 211), (0, x1), (2, p2), (9, 0), (9, 0)] [] _ σ _
  refine Z_aload_n 0 dX12_bare_0 rfl rfl ?_
  refine Z_iload_n 1 dX12_bare_1 rfl rfl ?_
  refine Z_invV (T := TX12) (N := 30) (ci := 12) (M' := mX12_isBelow) (ρ' := rX12_isBelow zN) (st := []) [(0, x1)] dX12_bare_2 rfl rfl la_211 (z_leN la_211 (by decide)) (by decide) rfl rfl (kX12_isBelow.cl (Nat.le_of_ble_eq_true rfl) (Nat.le_refl _) (Nat.le_refl _) (Nat.le_of_ble_eq_true rfl) (Nat.le_of_ble_eq_true rfl) (Nat.le_of_ble_eq_true rfl)) (mlX12_96 rfl) iX12_isBelow sX12_isBelow h (z_kz (fun r1 σ2 h => ?_))
  refine Z_istore_n (L' := [(2, 211), (0, x1), (2, p2), (0, (zb r1)), (9, 0)]) 3 dX12_bare_5 rfl (Nat.le_of_ble_eq_true rfl) rfl ?_
  refine Z_iload_n 3 dX12_bare_6 rfl rfl ?_
  refine Z_zif_eq (tgt := 15) dX12_bare_7 (by decide) (fun c => ?_) (fun c => ?_)
  · replace h := h.1 c
    refine Z_iconst dX12_bare_15 ?_
    refine Z_istore (L' := [(2, 211), (0, x1), (2, p2), (0, (zb r1)), (0, 0)]) dX12_bare_16 (Nat.le_of_ble_eq_true rfl) rfl ?_
    exact Z_few (z_few_k (z_few_k (z_few_k (z_few_k (z_few_k z_few_0))))) h
  · replace h := h.2 c
    refine Z_aload_n 0 dX12_bare_10 rfl rfl ?_
    refine Z_iload_n 1 dX12_bare_11 rfl rfl ?_
    refine Z_invV (T := TX12) (N := 30) (ci := 12) (M' := mX12_turn) (ρ' := rX12_turn zN) (st := []) [(0, x1)] dX12_bare_12 rfl rfl la_211 (z_leN la_211 (by decide)) (by decide) rfl rfl (kX12_turn.cl (Nat.le_of_ble_eq_true rfl) (Nat.le_refl _) (Nat.le_refl _) (Nat.le_of_ble_eq_true rfl) (Nat.le_of_ble_eq_true rfl) (Nat.le_of_ble_eq_true rfl)) (mlX12_99 rfl) iX12_turn sX12_turn h (z_kv (fun σ4 h => ?_))
    refine Z_iconst dX12_bare_15 ?_
    refine Z_istore (L' := [(2, 211), (0, x1), (2, p2), (0, (zb r1)), (0, 0)]) dX12_bare_16 (Nat.le_of_ble_eq_true rfl) rfl ?_
    exact Z_few (z_few_k (z_few_k (z_few_k (z_few_k (z_few_k z_few_0))))) h
theorem bk_X12_bare_18 {X : ZS} {σ : ZM} {T : ZM → Prop} {x1 : Int} {p2 : Int} (hp2 : z_l p2 = (21, 16)) {x3 : Int} {x4 : Int} (h : (r32 x4) ∧ ((16 ≤ x4) → (r32 x3) ∧ ((x3 = 0) → T σ) ∧ ((¬ x3 = 0) → ZC X (rX12_turn zN) mX12_turn [(2, 211), (0, x1)] zN σ (zQv (fun σ4 => T σ4)))) ∧ ((¬ (16 ≤ x4)) → (Fix σ) ∧ (0 ≤ ((16 * x1) + x4)) ∧ (((16 * x1) + x4) < 2112) ∧ (0 ≤ x4) ∧ (x4 < 16) ∧ Z X (rX12_bare zN) mX12_bare 18 [(2, 211), (0, x1), (2, p2), (0, x3), (0, (x4 + 1))] [] zN (z_up σ p2 x4 (σ 212 ((16 * x1) + x4))) (zQv T))) : Z X (rX12_bare zN) mX12_bare 18 [(2, 211), (0, x1), (2, p2), (0, x3), (0, x4)] [] zN σ (zQv T) := by
  refine Z_iload dX12_bare_18 rfl ?_
  refine Z_bipush dX12_bare_20 (by decide) ?_
  obtain ⟨g1, h⟩ := h
  refine Z_icmp_ge (tgt := 47) dX12_bare_22 (by decide) g1 ⟨by decide, by decide⟩ (fun c => ?_) (fun c => ?_)
  · replace h := h.1 c
    refine Z_iload_n 3 dX12_bare_47 rfl rfl ?_
    obtain ⟨g2, h⟩ := h
    refine Z_if_eq (tgt := 56) dX12_bare_48 (by decide) g2 (fun c => ?_) (fun c => ?_)
    · replace h := h.1 c
      exact Z_return dX12_bare_56 rfl rfl ⟨rfl, h⟩
    · replace h := h.2 c
      refine Z_aload_n 0 dX12_bare_51 rfl rfl ?_
      refine Z_iload_n 1 dX12_bare_52 rfl rfl ?_
      refine Z_invV (T := TX12) (N := 30) (ci := 12) (M' := mX12_turn) (ρ' := rX12_turn zN) (st := []) [(0, x1)] dX12_bare_53 rfl rfl la_211 (z_leN la_211 (by decide)) (by decide) rfl rfl (kX12_turn.cl (Nat.le_of_ble_eq_true rfl) (Nat.le_refl _) (Nat.le_refl _) (Nat.le_of_ble_eq_true rfl) (Nat.le_of_ble_eq_true rfl) (Nat.le_of_ble_eq_true rfl)) (mlX12_99 rfl) iX12_turn sX12_turn h (z_kv (fun σ4 h => ?_))
      exact Z_return dX12_bare_56 rfl rfl ⟨rfl, h⟩
  · replace h := h.2 c
    refine Z_aload_n 2 dX12_bare_25 rfl rfl ?_
    refine Z_iload dX12_bare_26 rfl ?_
    refine Z_aload_n 0 dX12_bare_28 rfl rfl ?_
    obtain ⟨g5, h⟩ := h
    refine Z_get (T := TX12) (N := 30) (ci := 12) (t := 2) 0 dX12_bare_29 la_211 (z_leN la_211 (by decide)) rfl (by decide) inX12 (by decide) (flX12_9 rfl) rfl ?_
    refine Z_top (y := 212) ((Fix.get g5 la_211 0 1 (by decide +kernel)).trans (by clear h; omega)) ?_
    refine Z_bipush dX12_bare_32 (by decide) ?_
    refine Z_iload_n 1 dX12_bare_34 rfl rfl ?_
    refine Z_imul dX12_bare_35 ?_
    refine Z_iload dX12_bare_36 rfl ?_
    refine Z_iadd dX12_bare_38 ?_
    obtain ⟨g6, h⟩ := h
    obtain ⟨g7, h⟩ := h
    refine Z_lald dX12_bare_39 la_212 (z_leN la_212 (by decide)) g6 g7 ?_
    obtain ⟨g8, h⟩ := h
    obtain ⟨g9, h⟩ := h
    refine Z_last dX12_bare_40 hp2 (z_leN hp2 (by decide)) g8 g9 ?_
    refine Z_iinc (L' := [(2, 211), (0, x1), (2, p2), (0, x3), (0, (x4 + 1))]) dX12_bare_41 rfl (Nat.le_of_ble_eq_true rfl) rfl ?_
    refine Z_goto (tgt := 18) dX12_bare_44 (by decide) ?_
    exact Z_few (z_few_k (z_few_k (z_few_k (z_few_k (z_few_k z_few_0))))) h
theorem bk_X12_length {X : ZS} {σ : ZM} {T : Int → ZM → Prop} {p0 : Int} (hp0 : z_l p0 = (21, 16)) (h : Z X (rX12_length zN) mX12_length 3 [(2, p0), (0, 16)] [] zN σ (zQi T)) : ZC X (rX12_length zN) mX12_length [(2, p0)] zN σ (zQi T) := by
  show Z X _ _ 0 [(2, p0), (9, 0)] [] _ σ _
  refine Z_bipush dX12_length_0 (by decide) ?_
  refine Z_istore_n (L' := [(2, p0), (0, 16)]) 1 dX12_length_2 rfl (Nat.le_of_ble_eq_true rfl) rfl ?_
  exact Z_few (z_few_k (z_few_k z_few_0)) h
theorem bk_X12_length_3 {X : ZS} {σ : ZM} {T : Int → ZM → Prop} {p0 : Int} (hp0 : z_l p0 = (21, 16)) {x1 : Int} (h : (r32 x1) ∧ ((x1 ≤ 0) → T x1 σ) ∧ ((¬ (x1 ≤ 0)) → (0 ≤ (x1 - 1)) ∧ ((x1 - 1) < 16) ∧ (r64 (σ p0 (x1 - 1))) ∧ ((¬ (σ p0 (x1 - 1)) = 0) → T x1 σ) ∧ (((σ p0 (x1 - 1)) = 0) → Z X (rX12_length zN) mX12_length 3 [(2, p0), (0, (x1 + (-1)))] [] zN σ (zQi T)))) : Z X (rX12_length zN) mX12_length 3 [(2, p0), (0, x1)] [] zN σ (zQi T) := by
  refine Z_iload_n 1 dX12_length_3 rfl rfl ?_
  obtain ⟨g1, h⟩ := h
  refine Z_if_le (tgt := 23) dX12_length_4 (by decide) g1 (fun c => ?_) (fun c => ?_)
  · replace h := h.1 c
    refine Z_iload_n 1 dX12_length_23 rfl rfl ?_
    exact Z_ireturn dX12_length_24 rfl rfl ⟨rfl, h⟩
  · replace h := h.2 c
    refine Z_aload_n 0 dX12_length_7 rfl rfl ?_
    refine Z_iload_n 1 dX12_length_8 rfl rfl ?_
    refine Z_iconst dX12_length_9 ?_
    refine Z_isub dX12_length_10 ?_
    obtain ⟨g2, h⟩ := h
    obtain ⟨g3, h⟩ := h
    refine Z_lald dX12_length_11 hp0 (z_leN hp0 (by decide)) g2 g3 ?_
    refine Z_lconst (x := 0) dX12_length_12 rfl ?_
    obtain ⟨g4, h⟩ := h
    refine Z_lc_ne (tgt := 23) dX12_length_13 dX12_length_14 (by decide) g4 ⟨by decide, by decide⟩ (fun c => ?_) (fun c => ?_)
    · replace h := h.1 c
      refine Z_iload_n 1 dX12_length_23 rfl rfl ?_
      exact Z_ireturn dX12_length_24 rfl rfl ⟨rfl, h⟩
    · replace h := h.2 c
      refine Z_iinc (L' := [(2, p0), (0, (x1 + (-1)))]) dX12_length_17 rfl (Nat.le_of_ble_eq_true rfl) rfl ?_
      refine Z_goto (tgt := 3) dX12_length_20 (by decide) ?_
      exact Z_few (z_few_k (z_few_k z_few_0)) h
theorem bk_X12_times {X : ZS} {σ : ZM} {T : ZM → Prop} {x1 : Int} {x2 : Int} {x3 : Int} (h : ZC X (rX12_isBelow zN) mX12_isBelow [(2, 211), (0, x2)] zN σ (zQz (fun r1 σ2 => ZC X (rX12_isBelow zN) mX12_isBelow [(2, 211), (0, x3)] zN σ2 (zQz (fun r3 σ4 => (((zb r1) = (zb r3)) → (Fix σ4) ∧ ZC X (rX12_bare zN) mX12_bare [(2, 211), (0, x2), (2, 221)] zN σ4 (zQv (fun σ7 => (Fix σ7) ∧ ZC X (rX12_bare zN) mX12_bare [(2, 211), (0, x3), (2, 222)] zN σ7 (zQv (fun σ10 => Z X (rX12_times zN) mX12_times 41 [(2, 211), (0, x1), (9, 0), (9, 0), (0, 0), (0, 0), (9, 0), (9, 0), (9, 0), (9, 0), (9, 0), (9, 0), (9, 0)] [] zN σ10 (zQv T)))))) ∧ ((¬ (zb r1) = (zb r3)) → (Fix σ4) ∧ ZC X (rX12_bare zN) mX12_bare [(2, 211), (0, x2), (2, 221)] zN σ4 (zQv (fun σ13 => (Fix σ13) ∧ ZC X (rX12_bare zN) mX12_bare [(2, 211), (0, x3), (2, 222)] zN σ13 (zQv (fun σ16 => Z X (rX12_times zN) mX12_times 41 [(2, 211), (0, x1), (9, 0), (9, 0), (0, 1), (0, 0), (9, 0), (9, 0), (9, 0), (9, 0), (9, 0), (9, 0), (9, 0)] [] zN σ16 (zQv T))))))))))) : ZC X (rX12_times zN) mX12_times [(2, 211), (0, x1), (0, x2), (0, x3)] zN σ (zQv T) := by
  show Z X _ _ 0 [(2, 211), (0, x1), (0, x2), (0, x3), (9, 0), (9, 0), (9, 0), (9, 0), (9, 0), (9, 0), (9, 0), (9, 0), (9, 0)] [] _ σ _
  refine Z_aload_n 0 dX12_times_0 rfl rfl ?_
  refine Z_iload_n 2 dX12_times_1 rfl rfl ?_
  refine Z_invV (T := TX12) (N := 30) (ci := 12) (M' := mX12_isBelow) (ρ' := rX12_isBelow zN) (st := []) [(0, x2)] dX12_times_2 rfl rfl la_211 (z_leN la_211 (by decide)) (by decide) rfl rfl (kX12_isBelow.cl (Nat.le_of_ble_eq_true rfl) (Nat.le_refl _) (Nat.le_refl _) (Nat.le_of_ble_eq_true rfl) (Nat.le_of_ble_eq_true rfl) (Nat.le_of_ble_eq_true rfl)) (mlX12_96 rfl) iX12_isBelow sX12_isBelow h (z_kz (fun r1 σ2 h => ?_))
  refine Z_aload_n 0 dX12_times_5 rfl rfl ?_
  refine Z_iload_n 3 dX12_times_6 rfl rfl ?_
  refine Z_invV (T := TX12) (N := 30) (ci := 12) (M' := mX12_isBelow) (ρ' := rX12_isBelow zN) (st := [(0, (zb r1))]) [(0, x3)] dX12_times_7 rfl rfl la_211 (z_leN la_211 (by decide)) (by decide) rfl rfl (kX12_isBelow.cl (Nat.le_of_ble_eq_true rfl) (Nat.le_refl _) (Nat.le_refl _) (Nat.le_of_ble_eq_true rfl) (Nat.le_of_ble_eq_true rfl) (Nat.le_of_ble_eq_true rfl)) (mlX12_96 rfl) iX12_isBelow sX12_isBelow h (z_kz (fun r3 σ4 h => ?_))
  refine Z_icmp_eq (tgt := 17) dX12_times_10 (by decide) (zb_r _) (zb_r _) (fun c => ?_) (fun c => ?_)
  · replace h := h.1 c
    refine Z_iconst dX12_times_17 ?_
    refine Z_istore (L' := [(2, 211), (0, x1), (0, x2), (0, x3), (0, 0), (9, 0), (9, 0), (9, 0), (9, 0), (9, 0), (9, 0), (9, 0), (9, 0)]) dX12_times_18 (Nat.le_of_ble_eq_true rfl) rfl ?_
    refine Z_aload_n 0 dX12_times_20 rfl rfl ?_
    refine Z_iload_n 2 dX12_times_21 rfl rfl ?_
    refine Z_aload_n 0 dX12_times_22 rfl rfl ?_
    obtain ⟨g5, h⟩ := h
    refine Z_get (T := TX12) (N := 30) (ci := 12) (t := 2) 14 dX12_times_23 la_211 (z_leN la_211 (by decide)) rfl (by decide) inX12 (by decide) (flX12_45 rfl) rfl ?_
    refine Z_top (y := 221) ((Fix.get g5 la_211 14 10 (by decide +kernel)).trans (by clear h; omega)) ?_
    refine Z_invV (T := TX12) (N := 30) (ci := 12) (M' := mX12_bare) (ρ' := rX12_bare zN) (st := []) [(0, x2), (2, 221)] dX12_times_26 rfl rfl la_211 (z_leN la_211 (by decide)) (by decide) rfl rfl (kX12_bare.cl (Nat.le_of_ble_eq_true rfl) (Nat.le_refl _) (Nat.le_refl _) (Nat.le_of_ble_eq_true rfl) (Nat.le_of_ble_eq_true rfl) (Nat.le_of_ble_eq_true rfl)) (mlX12_102 rfl) iX12_bare sX12_bare h (z_kv (fun σ7 h => ?_))
    refine Z_aload_n 0 dX12_times_29 rfl rfl ?_
    refine Z_iload_n 3 dX12_times_30 rfl rfl ?_
    refine Z_aload_n 0 dX12_times_31 rfl rfl ?_
    obtain ⟨g8, h⟩ := h
    refine Z_get (T := TX12) (N := 30) (ci := 12) (t := 2) 15 dX12_times_32 la_211 (z_leN la_211 (by decide)) rfl (by decide) inX12 (by decide) (flX12_48 rfl) rfl ?_
    refine Z_top (y := 222) ((Fix.get g8 la_211 15 11 (by decide +kernel)).trans (by clear h; omega)) ?_
    refine Z_invV (T := TX12) (N := 30) (ci := 12) (M' := mX12_bare) (ρ' := rX12_bare zN) (st := []) [(0, x3), (2, 222)] dX12_times_35 rfl rfl la_211 (z_leN la_211 (by decide)) (by decide) rfl rfl (kX12_bare.cl (Nat.le_of_ble_eq_true rfl) (Nat.le_refl _) (Nat.le_refl _) (Nat.le_of_ble_eq_true rfl) (Nat.le_of_ble_eq_true rfl) (Nat.le_of_ble_eq_true rfl)) (mlX12_102 rfl) iX12_bare sX12_bare h (z_kv (fun σ10 h => ?_))
    refine Z_iconst dX12_times_38 ?_
    refine Z_istore (L' := [(2, 211), (0, x1), (0, x2), (0, x3), (0, 0), (0, 0), (9, 0), (9, 0), (9, 0), (9, 0), (9, 0), (9, 0), (9, 0)]) dX12_times_39 (Nat.le_of_ble_eq_true rfl) rfl ?_
    exact Z_few (z_few_k (z_few_k (z_few_d (z_few_d (z_few_k (z_few_k (z_few_k (z_few_k (z_few_k (z_few_k (z_few_k (z_few_k (z_few_k z_few_0))))))))))))) h
  · replace h := h.2 c
    refine Z_iconst dX12_times_13 ?_
    refine Z_goto (tgt := 18) dX12_times_14 (by decide) ?_
    refine Z_istore (L' := [(2, 211), (0, x1), (0, x2), (0, x3), (0, 1), (9, 0), (9, 0), (9, 0), (9, 0), (9, 0), (9, 0), (9, 0), (9, 0)]) dX12_times_18 (Nat.le_of_ble_eq_true rfl) rfl ?_
    refine Z_aload_n 0 dX12_times_20 rfl rfl ?_
    refine Z_iload_n 2 dX12_times_21 rfl rfl ?_
    refine Z_aload_n 0 dX12_times_22 rfl rfl ?_
    obtain ⟨g11, h⟩ := h
    refine Z_get (T := TX12) (N := 30) (ci := 12) (t := 2) 14 dX12_times_23 la_211 (z_leN la_211 (by decide)) rfl (by decide) inX12 (by decide) (flX12_45 rfl) rfl ?_
    refine Z_top (y := 221) ((Fix.get g11 la_211 14 10 (by decide +kernel)).trans (by clear h; omega)) ?_
    refine Z_invV (T := TX12) (N := 30) (ci := 12) (M' := mX12_bare) (ρ' := rX12_bare zN) (st := []) [(0, x2), (2, 221)] dX12_times_26 rfl rfl la_211 (z_leN la_211 (by decide)) (by decide) rfl rfl (kX12_bare.cl (Nat.le_of_ble_eq_true rfl) (Nat.le_refl _) (Nat.le_refl _) (Nat.le_of_ble_eq_true rfl) (Nat.le_of_ble_eq_true rfl) (Nat.le_of_ble_eq_true rfl)) (mlX12_102 rfl) iX12_bare sX12_bare h (z_kv (fun σ13 h => ?_))
    refine Z_aload_n 0 dX12_times_29 rfl rfl ?_
    refine Z_iload_n 3 dX12_times_30 rfl rfl ?_
    refine Z_aload_n 0 dX12_times_31 rfl rfl ?_
    obtain ⟨g14, h⟩ := h
    refine Z_get (T := TX12) (N := 30) (ci := 12) (t := 2) 15 dX12_times_32 la_211 (z_leN la_211 (by decide)) rfl (by decide) inX12 (by decide) (flX12_48 rfl) rfl ?_
    refine Z_top (y := 222) ((Fix.get g14 la_211 15 11 (by decide +kernel)).trans (by clear h; omega)) ?_
    refine Z_invV (T := TX12) (N := 30) (ci := 12) (M' := mX12_bare) (ρ' := rX12_bare zN) (st := []) [(0, x3), (2, 222)] dX12_times_35 rfl rfl la_211 (z_leN la_211 (by decide)) (by decide) rfl rfl (kX12_bare.cl (Nat.le_of_ble_eq_true rfl) (Nat.le_refl _) (Nat.le_refl _) (Nat.le_of_ble_eq_true rfl) (Nat.le_of_ble_eq_true rfl) (Nat.le_of_ble_eq_true rfl)) (mlX12_102 rfl) iX12_bare sX12_bare h (z_kv (fun σ16 h => ?_))
    refine Z_iconst dX12_times_38 ?_
    refine Z_istore (L' := [(2, 211), (0, x1), (0, x2), (0, x3), (0, 1), (0, 0), (9, 0), (9, 0), (9, 0), (9, 0), (9, 0), (9, 0), (9, 0)]) dX12_times_39 (Nat.le_of_ble_eq_true rfl) rfl ?_
    exact Z_few (z_few_k (z_few_k (z_few_d (z_few_d (z_few_k (z_few_k (z_few_k (z_few_k (z_few_k (z_few_k (z_few_k (z_few_k (z_few_k z_few_0))))))))))))) h
theorem bk_X12_times_41 {X : ZS} {σ : ZM} {T : ZM → Prop} {x1 : Int} {x4 : Int} {x5 : Int} (h : (r32 x5) ∧ ((16 ≤ x5) → (Fix σ) ∧ ZC X (rX12_length zN) mX12_length [(2, 221)] zN σ (zQi (fun r3 σ4 => (Fix σ4) ∧ ZC X (rX12_length zN) mX12_length [(2, 222)] zN σ4 (zQi (fun r6 σ7 => Z X (rX12_times zN) mX12_times 83 [(2, 211), (0, x1), (9, 0), (9, 0), (0, x4), (0, r3), (0, r6), (0, 0), (9, 0), (9, 0), (9, 0), (9, 0), (9, 0)] [] zN σ7 (zQv T)))))) ∧ ((¬ (16 ≤ x5)) → (Fix σ) ∧ (0 ≤ x5) ∧ (x5 < 16) ∧ Z X (rX12_times zN) mX12_times 41 [(2, 211), (0, x1), (9, 0), (9, 0), (0, x4), (0, (x5 + 1)), (9, 0), (9, 0), (9, 0), (9, 0), (9, 0), (9, 0), (9, 0)] [] zN (z_up σ 223 x5 0) (zQv T))) : Z X (rX12_times zN) mX12_times 41 [(2, 211), (0, x1), (9, 0), (9, 0), (0, x4), (0, x5), (9, 0), (9, 0), (9, 0), (9, 0), (9, 0), (9, 0), (9, 0)] [] zN σ (zQv T) := by
  refine Z_iload dX12_times_41 rfl ?_
  refine Z_bipush dX12_times_43 (by decide) ?_
  obtain ⟨g1, h⟩ := h
  refine Z_icmp_ge (tgt := 62) dX12_times_45 (by decide) g1 ⟨by decide, by decide⟩ (fun c => ?_) (fun c => ?_)
  · replace h := h.1 c
    refine Z_aload_n 0 dX12_times_62 rfl rfl ?_
    obtain ⟨g2, h⟩ := h
    refine Z_get (T := TX12) (N := 30) (ci := 12) (t := 2) 14 dX12_times_63 la_211 (z_leN la_211 (by decide)) rfl (by decide) inX12 (by decide) (flX12_45 rfl) rfl ?_
    refine Z_top (y := 221) ((Fix.get g2 la_211 14 10 (by decide +kernel)).trans (by clear h; omega)) ?_
    refine Z_invS (M' := mX12_length) (ρ' := rX12_length zN) (st := []) [(2, 221)] dX12_times_66 rfl rfl (kX12_length.cl (Nat.le_of_ble_eq_true rfl) (Nat.le_refl _) (Nat.le_refl _) (Nat.le_of_ble_eq_true rfl) (Nat.le_of_ble_eq_true rfl) (Nat.le_of_ble_eq_true rfl)) (mlX12_106 rfl) sX12_length h (z_ki (fun r3 σ4 h => ?_))
    refine Z_istore (L' := [(2, 211), (0, x1), (9, 0), (9, 0), (0, x4), (0, r3), (9, 0), (9, 0), (9, 0), (9, 0), (9, 0), (9, 0), (9, 0)]) dX12_times_69 (Nat.le_of_ble_eq_true rfl) rfl ?_
    refine Z_aload_n 0 dX12_times_71 rfl rfl ?_
    obtain ⟨g5, h⟩ := h
    refine Z_get (T := TX12) (N := 30) (ci := 12) (t := 2) 15 dX12_times_72 la_211 (z_leN la_211 (by decide)) rfl (by decide) inX12 (by decide) (flX12_48 rfl) rfl ?_
    refine Z_top (y := 222) ((Fix.get g5 la_211 15 11 (by decide +kernel)).trans (by clear h; omega)) ?_
    refine Z_invS (M' := mX12_length) (ρ' := rX12_length zN) (st := []) [(2, 222)] dX12_times_75 rfl rfl (kX12_length.cl (Nat.le_of_ble_eq_true rfl) (Nat.le_refl _) (Nat.le_refl _) (Nat.le_of_ble_eq_true rfl) (Nat.le_of_ble_eq_true rfl) (Nat.le_of_ble_eq_true rfl)) (mlX12_106 rfl) sX12_length h (z_ki (fun r6 σ7 h => ?_))
    refine Z_istore (L' := [(2, 211), (0, x1), (9, 0), (9, 0), (0, x4), (0, r3), (0, r6), (9, 0), (9, 0), (9, 0), (9, 0), (9, 0), (9, 0)]) dX12_times_78 (Nat.le_of_ble_eq_true rfl) rfl ?_
    refine Z_iconst dX12_times_80 ?_
    refine Z_istore (L' := [(2, 211), (0, x1), (9, 0), (9, 0), (0, x4), (0, r3), (0, r6), (0, 0), (9, 0), (9, 0), (9, 0), (9, 0), (9, 0)]) dX12_times_81 (Nat.le_of_ble_eq_true rfl) rfl ?_
    exact Z_few (z_few_k (z_few_k (z_few_k (z_few_k (z_few_k (z_few_k (z_few_k (z_few_k (z_few_k (z_few_k (z_few_k (z_few_k (z_few_k z_few_0))))))))))))) h
  · replace h := h.2 c
    refine Z_aload_n 0 dX12_times_48 rfl rfl ?_
    obtain ⟨g8, h⟩ := h
    refine Z_get (T := TX12) (N := 30) (ci := 12) (t := 2) 16 dX12_times_49 la_211 (z_leN la_211 (by decide)) rfl (by decide) inX12 (by decide) (flX12_51 rfl) rfl ?_
    refine Z_top (y := 223) ((Fix.get g8 la_211 16 12 (by decide +kernel)).trans (by clear h; omega)) ?_
    refine Z_iload dX12_times_52 rfl ?_
    refine Z_lconst (x := 0) dX12_times_54 rfl ?_
    obtain ⟨g9, h⟩ := h
    obtain ⟨g10, h⟩ := h
    refine Z_last dX12_times_55 la_223 (z_leN la_223 (by decide)) g9 g10 ?_
    refine Z_iinc (L' := [(2, 211), (0, x1), (9, 0), (9, 0), (0, x4), (0, (x5 + 1)), (9, 0), (9, 0), (9, 0), (9, 0), (9, 0), (9, 0), (9, 0)]) dX12_times_56 rfl (Nat.le_of_ble_eq_true rfl) rfl ?_
    refine Z_goto (tgt := 41) dX12_times_59 (by decide) ?_
    exact Z_few (z_few_k (z_few_k (z_few_k (z_few_k (z_few_k (z_few_k (z_few_k (z_few_k (z_few_k (z_few_k (z_few_k (z_few_k (z_few_k z_few_0))))))))))))) h
theorem bk_X12_times_83 {X : ZS} {σ : ZM} {T : ZM → Prop} {x1 : Int} {x4 : Int} {x5 : Int} {x6 : Int} {x7 : Int} (h : (r32 x7) ∧ (r32 x5) ∧ ((x5 ≤ x7) → Z X (rX12_times zN) mX12_times 190 [(2, 211), (0, x1), (9, 0), (9, 0), (0, x4), (9, 0), (9, 0), (0, 0), (9, 0), (9, 0), (9, 0), (9, 0), (9, 0)] [] zN σ (zQv T)) ∧ ((¬ (x5 ≤ x7)) → Z X (rX12_times zN) mX12_times 96 [(2, 211), (0, x1), (9, 0), (9, 0), (0, x4), (0, x5), (0, x6), (0, x7), (1, 0), (9, 0), (0, 0), (9, 0), (9, 0)] [] zN σ (zQv T))) : Z X (rX12_times zN) mX12_times 83 [(2, 211), (0, x1), (9, 0), (9, 0), (0, x4), (0, x5), (0, x6), (0, x7), (9, 0), (9, 0), (9, 0), (9, 0), (9, 0)] [] zN σ (zQv T) := by
  refine Z_iload dX12_times_83 rfl ?_
  refine Z_iload dX12_times_85 rfl ?_
  obtain ⟨g1, h⟩ := h
  obtain ⟨g2, h⟩ := h
  refine Z_icmp_ge (tgt := 187) dX12_times_87 (by decide) g1 g2 (fun c => ?_) (fun c => ?_)
  · replace h := h.1 c
    refine Z_iconst dX12_times_187 ?_
    refine Z_istore (L' := [(2, 211), (0, x1), (9, 0), (9, 0), (0, x4), (0, x5), (0, x6), (0, 0), (9, 0), (9, 0), (9, 0), (9, 0), (9, 0)]) dX12_times_188 (Nat.le_of_ble_eq_true rfl) rfl ?_
    exact Z_few (z_few_k (z_few_k (z_few_k (z_few_k (z_few_k (z_few_d (z_few_d (z_few_k (z_few_k (z_few_k (z_few_k (z_few_k (z_few_k z_few_0))))))))))))) h
  · replace h := h.2 c
    refine Z_lconst (x := 0) dX12_times_90 rfl ?_
    refine Z_lstore (L' := [(2, 211), (0, x1), (9, 0), (9, 0), (0, x4), (0, x5), (0, x6), (0, x7), (1, 0), (9, 0), (9, 0), (9, 0), (9, 0)]) dX12_times_91 (Nat.le_of_ble_eq_true rfl) rfl ?_
    refine Z_iconst dX12_times_93 ?_
    refine Z_istore (L' := [(2, 211), (0, x1), (9, 0), (9, 0), (0, x4), (0, x5), (0, x6), (0, x7), (1, 0), (9, 0), (0, 0), (9, 0), (9, 0)]) dX12_times_94 (Nat.le_of_ble_eq_true rfl) rfl ?_
    exact Z_few (z_few_k (z_few_k (z_few_k (z_few_k (z_few_k (z_few_k (z_few_k (z_few_k (z_few_k (z_few_k (z_few_k (z_few_k (z_few_k z_few_0))))))))))))) h
theorem bk_X12_times_96 {X : ZS} {σ : ZM} {T : ZM → Prop} {x1 : Int} {x4 : Int} {x5 : Int} {x6 : Int} {x7 : Int} {x8 : Int} {x10 : Int} (h : (r32 (x7 + x10)) ∧ ((16 ≤ (x7 + x10)) → Z X (rX12_times zN) mX12_times 83 [(2, 211), (0, x1), (9, 0), (9, 0), (0, x4), (0, x5), (0, x6), (0, (x7 + 1)), (9, 0), (9, 0), (9, 0), (9, 0), (9, 0)] [] zN σ (zQv T)) ∧ ((¬ (16 ≤ (x7 + x10))) → (r32 x10) ∧ (r32 x6) ∧ ((x10 < x6) → Z X (rX12_times zN) mX12_times 120 [(2, 211), (0, x1), (9, 0), (9, 0), (0, x4), (0, x5), (0, x6), (0, x7), (1, x8), (9, 0), (0, x10), (9, 0), (9, 0)] [] zN σ (zQv T)) ∧ ((¬ (x10 < x6)) → (r64 x8) ∧ ((x8 ≤ 0) → Z X (rX12_times zN) mX12_times 83 [(2, 211), (0, x1), (9, 0), (9, 0), (0, x4), (0, x5), (0, x6), (0, (x7 + 1)), (9, 0), (9, 0), (9, 0), (9, 0), (9, 0)] [] zN σ (zQv T)) ∧ ((¬ (x8 ≤ 0)) → Z X (rX12_times zN) mX12_times 120 [(2, 211), (0, x1), (9, 0), (9, 0), (0, x4), (0, x5), (0, x6), (0, x7), (1, x8), (9, 0), (0, x10), (9, 0), (9, 0)] [] zN σ (zQv T))))) : Z X (rX12_times zN) mX12_times 96 [(2, 211), (0, x1), (9, 0), (9, 0), (0, x4), (0, x5), (0, x6), (0, x7), (1, x8), (9, 0), (0, x10), (9, 0), (9, 0)] [] zN σ (zQv T) := by
  refine Z_iload dX12_times_96 rfl ?_
  refine Z_iload dX12_times_98 rfl ?_
  refine Z_iadd dX12_times_100 ?_
  refine Z_bipush dX12_times_101 (by decide) ?_
  obtain ⟨g1, h⟩ := h
  refine Z_icmp_ge (tgt := 181) dX12_times_103 (by decide) g1 ⟨by decide, by decide⟩ (fun c => ?_) (fun c => ?_)
  · replace h := h.1 c
    refine Z_iinc (L' := [(2, 211), (0, x1), (9, 0), (9, 0), (0, x4), (0, x5), (0, x6), (0, (x7 + 1)), (1, x8), (9, 0), (0, x10), (9, 0), (9, 0)]) dX12_times_181 rfl (Nat.le_of_ble_eq_true rfl) rfl ?_
    refine Z_goto (tgt := 83) dX12_times_184 (by decide) ?_
    exact Z_few (z_few_k (z_few_k (z_few_k (z_few_k (z_few_k (z_few_k (z_few_k (z_few_k (z_few_d (z_few_k (z_few_d (z_few_k (z_few_k z_few_0))))))))))))) h
  · replace h := h.2 c
    refine Z_iload dX12_times_106 rfl ?_
    refine Z_iload dX12_times_108 rfl ?_
    obtain ⟨g2, h⟩ := h
    obtain ⟨g3, h⟩ := h
    refine Z_icmp_lt (tgt := 120) dX12_times_110 (by decide) g2 g3 (fun c => ?_) (fun c => ?_)
    · replace h := h.1 c
      exact Z_few (z_few_k (z_few_k (z_few_k (z_few_k (z_few_k (z_few_k (z_few_k (z_few_k (z_few_k (z_few_k (z_few_k (z_few_k (z_few_k z_few_0))))))))))))) h
    · replace h := h.2 c
      refine Z_lload dX12_times_113 rfl ?_
      refine Z_lconst (x := 0) dX12_times_115 rfl ?_
      obtain ⟨g4, h⟩ := h
      refine Z_lc_le (tgt := 181) dX12_times_116 dX12_times_117 (by decide) g4 ⟨by decide, by decide⟩ (fun c => ?_) (fun c => ?_)
      · replace h := h.1 c
        refine Z_iinc (L' := [(2, 211), (0, x1), (9, 0), (9, 0), (0, x4), (0, x5), (0, x6), (0, (x7 + 1)), (1, x8), (9, 0), (0, x10), (9, 0), (9, 0)]) dX12_times_181 rfl (Nat.le_of_ble_eq_true rfl) rfl ?_
        refine Z_goto (tgt := 83) dX12_times_184 (by decide) ?_
        exact Z_few (z_few_k (z_few_k (z_few_k (z_few_k (z_few_k (z_few_k (z_few_k (z_few_k (z_few_d (z_few_k (z_few_d (z_few_k (z_few_k z_few_0))))))))))))) h
      · replace h := h.2 c
        exact Z_few (z_few_k (z_few_k (z_few_k (z_few_k (z_few_k (z_few_k (z_few_k (z_few_k (z_few_k (z_few_k (z_few_k (z_few_k (z_few_k z_few_0))))))))))))) h
theorem bk_X12_times_120 {X : ZS} {σ : ZM} {T : ZM → Prop} {x1 : Int} {x4 : Int} {x5 : Int} {x6 : Int} {x7 : Int} {x8 : Int} {x10 : Int} (h : (Fix σ) ∧ (0 ≤ (x7 + x10)) ∧ ((x7 + x10) < 16) ∧ (0 ≤ x7) ∧ (x7 < 16) ∧ (0 ≤ x10) ∧ (x10 < 16) ∧ (r64 (((σ 223 (x7 + x10)) + ((σ 221 x7) * (σ 222 x10))) + x8)) ∧ Z X (rX12_times zN) mX12_times 96 [(2, 211), (0, x1), (9, 0), (9, 0), (0, x4), (0, x5), (0, x6), (0, x7), (1, (Int.tdiv (((σ 223 (x7 + x10)) + ((σ 221 x7) * (σ 222 x10))) + x8) 1000000000)), (9, 0), (0, (x10 + 1)), (9, 0), (9, 0)] [] zN (z_up σ 223 (x7 + x10) (Int.tmod (((σ 223 (x7 + x10)) + ((σ 221 x7) * (σ 222 x10))) + x8) 1000000000)) (zQv T)) : Z X (rX12_times zN) mX12_times 120 [(2, 211), (0, x1), (9, 0), (9, 0), (0, x4), (0, x5), (0, x6), (0, x7), (1, x8), (9, 0), (0, x10), (9, 0), (9, 0)] [] zN σ (zQv T) := by
  refine Z_aload_n 0 dX12_times_120 rfl rfl ?_
  obtain ⟨g1, h⟩ := h
  refine Z_get (T := TX12) (N := 30) (ci := 12) (t := 2) 16 dX12_times_121 la_211 (z_leN la_211 (by decide)) rfl (by decide) inX12 (by decide) (flX12_51 rfl) rfl ?_
  refine Z_top (y := 223) ((Fix.get g1 la_211 16 12 (by decide +kernel)).trans (by clear h; omega)) ?_
  refine Z_iload dX12_times_124 rfl ?_
  refine Z_iload dX12_times_126 rfl ?_
  refine Z_iadd dX12_times_128 ?_
  obtain ⟨g2, h⟩ := h
  obtain ⟨g3, h⟩ := h
  refine Z_lald dX12_times_129 la_223 (z_leN la_223 (by decide)) g2 g3 ?_
  refine Z_aload_n 0 dX12_times_130 rfl rfl ?_
  refine Z_get (T := TX12) (N := 30) (ci := 12) (t := 2) 14 dX12_times_131 la_211 (z_leN la_211 (by decide)) rfl (by decide) inX12 (by decide) (flX12_45 rfl) rfl ?_
  refine Z_top (y := 221) ((Fix.get g1 la_211 14 10 (by decide +kernel)).trans (by clear h; omega)) ?_
  refine Z_iload dX12_times_134 rfl ?_
  obtain ⟨g4, h⟩ := h
  obtain ⟨g5, h⟩ := h
  refine Z_lald dX12_times_136 la_221 (z_leN la_221 (by decide)) g4 g5 ?_
  refine Z_aload_n 0 dX12_times_137 rfl rfl ?_
  refine Z_get (T := TX12) (N := 30) (ci := 12) (t := 2) 15 dX12_times_138 la_211 (z_leN la_211 (by decide)) rfl (by decide) inX12 (by decide) (flX12_48 rfl) rfl ?_
  refine Z_top (y := 222) ((Fix.get g1 la_211 15 11 (by decide +kernel)).trans (by clear h; omega)) ?_
  refine Z_iload dX12_times_141 rfl ?_
  obtain ⟨g6, h⟩ := h
  obtain ⟨g7, h⟩ := h
  refine Z_lald dX12_times_143 la_222 (z_leN la_222 (by decide)) g6 g7 ?_
  refine Z_lmul dX12_times_144 ?_
  refine Z_ladd dX12_times_145 ?_
  refine Z_lload dX12_times_146 rfl ?_
  refine Z_ladd dX12_times_148 ?_
  refine Z_lstore (L' := [(2, 211), (0, x1), (9, 0), (9, 0), (0, x4), (0, x5), (0, x6), (0, x7), (1, x8), (9, 0), (0, x10), (1, (((σ 223 (x7 + x10)) + ((σ 221 x7) * (σ 222 x10))) + x8)), (9, 0)]) dX12_times_149 (Nat.le_of_ble_eq_true rfl) rfl ?_
  refine Z_aload_n 0 dX12_times_151 rfl rfl ?_
  refine Z_get (T := TX12) (N := 30) (ci := 12) (t := 2) 16 dX12_times_152 la_211 (z_leN la_211 (by decide)) rfl (by decide) inX12 (by decide) (flX12_51 rfl) rfl ?_
  refine Z_top (y := 223) ((Fix.get g1 la_211 16 12 (by decide +kernel)).trans (by clear h; omega)) ?_
  refine Z_iload dX12_times_155 rfl ?_
  refine Z_iload dX12_times_157 rfl ?_
  refine Z_iadd dX12_times_159 ?_
  refine Z_lload dX12_times_160 rfl ?_
  refine Z_ldc2 (x := 1000000000) dX12_times_162 ctX12_77 rfl ?_
  obtain ⟨g8, h⟩ := h
  refine Z_lrem dX12_times_165 g8 ⟨by decide, by decide⟩ (by decide) ?_
  refine Z_last dX12_times_166 la_223 (z_leN la_223 (by decide)) g2 g3 ?_
  refine Z_lload dX12_times_167 rfl ?_
  refine Z_ldc2 (x := 1000000000) dX12_times_169 ctX12_77 rfl ?_
  refine Z_ldiv dX12_times_172 g8 ⟨by decide, by decide⟩ (by decide) ?_
  refine Z_lstore (L' := [(2, 211), (0, x1), (9, 0), (9, 0), (0, x4), (0, x5), (0, x6), (0, x7), (1, (Int.tdiv (((σ 223 (x7 + x10)) + ((σ 221 x7) * (σ 222 x10))) + x8) 1000000000)), (9, 0), (0, x10), (1, (((σ 223 (x7 + x10)) + ((σ 221 x7) * (σ 222 x10))) + x8)), (9, 0)]) dX12_times_173 (Nat.le_of_ble_eq_true rfl) rfl ?_
  refine Z_iinc (L' := [(2, 211), (0, x1), (9, 0), (9, 0), (0, x4), (0, x5), (0, x6), (0, x7), (1, (Int.tdiv (((σ 223 (x7 + x10)) + ((σ 221 x7) * (σ 222 x10))) + x8) 1000000000)), (9, 0), (0, (x10 + 1)), (1, (((σ 223 (x7 + x10)) + ((σ 221 x7) * (σ 222 x10))) + x8)), (9, 0)]) dX12_times_175 rfl (Nat.le_of_ble_eq_true rfl) rfl ?_
  refine Z_goto (tgt := 96) dX12_times_178 (by decide) ?_
  exact Z_few (z_few_k (z_few_k (z_few_k (z_few_k (z_few_k (z_few_k (z_few_k (z_few_k (z_few_k (z_few_k (z_few_k (z_few_d (z_few_k z_few_0))))))))))))) h
theorem bk_X12_times_190 {X : ZS} {σ : ZM} {T : ZM → Prop} {x1 : Int} {x4 : Int} {x7 : Int} (h : (r32 x7) ∧ ((16 ≤ x7) → (r32 x4) ∧ ((x4 = 0) → T σ) ∧ ((¬ x4 = 0) → ZC X (rX12_turn zN) mX12_turn [(2, 211), (0, x1)] zN σ (zQv (fun σ4 => T σ4)))) ∧ ((¬ (16 ≤ x7)) → (Fix σ) ∧ (0 ≤ x7) ∧ (x7 < 16) ∧ (0 ≤ ((16 * x1) + x7)) ∧ (((16 * x1) + x7) < 2112) ∧ Z X (rX12_times zN) mX12_times 190 [(2, 211), (0, x1), (9, 0), (9, 0), (0, x4), (9, 0), (9, 0), (0, (x7 + 1)), (9, 0), (9, 0), (9, 0), (9, 0), (9, 0)] [] zN (z_up σ 212 ((16 * x1) + x7) (σ 223 x7)) (zQv T))) : Z X (rX12_times zN) mX12_times 190 [(2, 211), (0, x1), (9, 0), (9, 0), (0, x4), (9, 0), (9, 0), (0, x7), (9, 0), (9, 0), (9, 0), (9, 0), (9, 0)] [] zN σ (zQv T) := by
  refine Z_iload dX12_times_190 rfl ?_
  refine Z_bipush dX12_times_192 (by decide) ?_
  obtain ⟨g1, h⟩ := h
  refine Z_icmp_ge (tgt := 222) dX12_times_194 (by decide) g1 ⟨by decide, by decide⟩ (fun c => ?_) (fun c => ?_)
  · replace h := h.1 c
    refine Z_iload dX12_times_222 rfl ?_
    obtain ⟨g2, h⟩ := h
    refine Z_if_eq (tgt := 232) dX12_times_224 (by decide) g2 (fun c => ?_) (fun c => ?_)
    · replace h := h.1 c
      exact Z_return dX12_times_232 rfl rfl ⟨rfl, h⟩
    · replace h := h.2 c
      refine Z_aload_n 0 dX12_times_227 rfl rfl ?_
      refine Z_iload_n 1 dX12_times_228 rfl rfl ?_
      refine Z_invV (T := TX12) (N := 30) (ci := 12) (M' := mX12_turn) (ρ' := rX12_turn zN) (st := []) [(0, x1)] dX12_times_229 rfl rfl la_211 (z_leN la_211 (by decide)) (by decide) rfl rfl (kX12_turn.cl (Nat.le_of_ble_eq_true rfl) (Nat.le_refl _) (Nat.le_refl _) (Nat.le_of_ble_eq_true rfl) (Nat.le_of_ble_eq_true rfl) (Nat.le_of_ble_eq_true rfl)) (mlX12_99 rfl) iX12_turn sX12_turn h (z_kv (fun σ4 h => ?_))
      exact Z_return dX12_times_232 rfl rfl ⟨rfl, h⟩
  · replace h := h.2 c
    refine Z_aload_n 0 dX12_times_197 rfl rfl ?_
    obtain ⟨g5, h⟩ := h
    refine Z_get (T := TX12) (N := 30) (ci := 12) (t := 2) 0 dX12_times_198 la_211 (z_leN la_211 (by decide)) rfl (by decide) inX12 (by decide) (flX12_9 rfl) rfl ?_
    refine Z_top (y := 212) ((Fix.get g5 la_211 0 1 (by decide +kernel)).trans (by clear h; omega)) ?_
    refine Z_bipush dX12_times_201 (by decide) ?_
    refine Z_iload_n 1 dX12_times_203 rfl rfl ?_
    refine Z_imul dX12_times_204 ?_
    refine Z_iload dX12_times_205 rfl ?_
    refine Z_iadd dX12_times_207 ?_
    refine Z_aload_n 0 dX12_times_208 rfl rfl ?_
    refine Z_get (T := TX12) (N := 30) (ci := 12) (t := 2) 16 dX12_times_209 la_211 (z_leN la_211 (by decide)) rfl (by decide) inX12 (by decide) (flX12_51 rfl) rfl ?_
    refine Z_top (y := 223) ((Fix.get g5 la_211 16 12 (by decide +kernel)).trans (by clear h; omega)) ?_
    refine Z_iload dX12_times_212 rfl ?_
    obtain ⟨g6, h⟩ := h
    obtain ⟨g7, h⟩ := h
    refine Z_lald dX12_times_214 la_223 (z_leN la_223 (by decide)) g6 g7 ?_
    obtain ⟨g8, h⟩ := h
    obtain ⟨g9, h⟩ := h
    refine Z_last dX12_times_215 la_212 (z_leN la_212 (by decide)) g8 g9 ?_
    refine Z_iinc (L' := [(2, 211), (0, x1), (9, 0), (9, 0), (0, x4), (9, 0), (9, 0), (0, (x7 + 1)), (9, 0), (9, 0), (9, 0), (9, 0), (9, 0)]) dX12_times_216 rfl (Nat.le_of_ble_eq_true rfl) rfl ?_
    refine Z_goto (tgt := 190) dX12_times_219 (by decide) ?_
    exact Z_few (z_few_k (z_few_k (z_few_k (z_few_k (z_few_k (z_few_k (z_few_k (z_few_k (z_few_k (z_few_k (z_few_k (z_few_k (z_few_k z_few_0))))))))))))) h
theorem bk_X12_parts {X : ZS} {σ : ZM} {T : ZM → Prop} {x1 : Int} {x2 : Int} (h : ZC X (rX12_isBelow zN) mX12_isBelow [(2, 211), (0, x1)] zN σ (zQz (fun r1 σ2 => ZC X (rX12_isBelow zN) mX12_isBelow [(2, 211), (0, x2)] zN σ2 (zQz (fun r3 σ4 => (((zb r1) = (zb r3)) → (Fix σ4) ∧ ZC X (rX12_bare zN) mX12_bare [(2, 211), (0, x1), (2, 221)] zN σ4 (zQv (fun σ7 => (Fix σ7) ∧ ZC X (rX12_bare zN) mX12_bare [(2, 211), (0, x2), (2, 222)] zN σ7 (zQv (fun σ10 => (Fix σ10) ∧ ZC X (rX12_length zN) mX12_length [(2, 222)] zN σ10 (zQi (fun r12 σ13 => (Fix σ13) ∧ ZC X (rX12_length zN) mX12_length [(2, 221)] zN σ13 (zQi (fun r15 σ16 => Z X (rX12_parts zN) mX12_parts 66 [(2, 211), (0, x1), (9, 0), (0, 0), (0, r12), (0, r15), (0, 0), (9, 0), (9, 0), (9, 0), (9, 0), (9, 0), (9, 0), (9, 0), (9, 0), (9, 0)] [] zN σ16 (zQv T)))))))))) ∧ ((¬ (zb r1) = (zb r3)) → ZC X (rX12_isZero zN) mX12_isZero [(2, 211), (0, x1)] zN σ4 (zQz (fun r17 σ18 => ((r17 = true) → (Fix σ18) ∧ ZC X (rX12_bare zN) mX12_bare [(2, 211), (0, x1), (2, 221)] zN σ18 (zQv (fun σ21 => (Fix σ21) ∧ ZC X (rX12_bare zN) mX12_bare [(2, 211), (0, x2), (2, 222)] zN σ21 (zQv (fun σ24 => (Fix σ24) ∧ ZC X (rX12_length zN) mX12_length [(2, 222)] zN σ24 (zQi (fun r26 σ27 => (Fix σ27) ∧ ZC X (rX12_length zN) mX12_length [(2, 221)] zN σ27 (zQi (fun r29 σ30 => Z X (rX12_parts zN) mX12_parts 66 [(2, 211), (0, x1), (9, 0), (0, 0), (0, r26), (0, r29), (0, 0), (9, 0), (9, 0), (9, 0), (9, 0), (9, 0), (9, 0), (9, 0), (9, 0), (9, 0)] [] zN σ30 (zQv T)))))))))) ∧ ((r17 = false) → (Fix σ18) ∧ ZC X (rX12_bare zN) mX12_bare [(2, 211), (0, x1), (2, 221)] zN σ18 (zQv (fun σ33 => (Fix σ33) ∧ ZC X (rX12_bare zN) mX12_bare [(2, 211), (0, x2), (2, 222)] zN σ33 (zQv (fun σ36 => (Fix σ36) ∧ ZC X (rX12_length zN) mX12_length [(2, 222)] zN σ36 (zQi (fun r38 σ39 => (Fix σ39) ∧ ZC X (rX12_length zN) mX12_length [(2, 221)] zN σ39 (zQi (fun r41 σ42 => Z X (rX12_parts zN) mX12_parts 66 [(2, 211), (0, x1), (9, 0), (0, 1), (0, r38), (0, r41), (0, 0), (9, 0), (9, 0), (9, 0), (9, 0), (9, 0), (9, 0), (9, 0), (9, 0), (9, 0)] [] zN σ42 (zQv T)))))))))))))))))) : ZC X (rX12_parts zN) mX12_parts [(2, 211), (0, x1), (0, x2)] zN σ (zQv T) := by
  show Z X _ _ 0 [(2, 211), (0, x1), (0, x2), (9, 0), (9, 0), (9, 0), (9, 0), (9, 0), (9, 0), (9, 0), (9, 0), (9, 0), (9, 0), (9, 0), (9, 0), (9, 0)] [] _ σ _
  refine Z_aload_n 0 dX12_parts_0 rfl rfl ?_
  refine Z_iload_n 1 dX12_parts_1 rfl rfl ?_
  refine Z_invV (T := TX12) (N := 30) (ci := 12) (M' := mX12_isBelow) (ρ' := rX12_isBelow zN) (st := []) [(0, x1)] dX12_parts_2 rfl rfl la_211 (z_leN la_211 (by decide)) (by decide) rfl rfl (kX12_isBelow.cl (Nat.le_of_ble_eq_true rfl) (Nat.le_refl _) (Nat.le_refl _) (Nat.le_of_ble_eq_true rfl) (Nat.le_of_ble_eq_true rfl) (Nat.le_of_ble_eq_true rfl)) (mlX12_96 rfl) iX12_isBelow sX12_isBelow h (z_kz (fun r1 σ2 h => ?_))
  refine Z_aload_n 0 dX12_parts_5 rfl rfl ?_
  refine Z_iload_n 2 dX12_parts_6 rfl rfl ?_
  refine Z_invV (T := TX12) (N := 30) (ci := 12) (M' := mX12_isBelow) (ρ' := rX12_isBelow zN) (st := [(0, (zb r1))]) [(0, x2)] dX12_parts_7 rfl rfl la_211 (z_leN la_211 (by decide)) (by decide) rfl rfl (kX12_isBelow.cl (Nat.le_of_ble_eq_true rfl) (Nat.le_refl _) (Nat.le_refl _) (Nat.le_of_ble_eq_true rfl) (Nat.le_of_ble_eq_true rfl) (Nat.le_of_ble_eq_true rfl)) (mlX12_96 rfl) iX12_isBelow sX12_isBelow h (z_kz (fun r3 σ4 h => ?_))
  refine Z_icmp_eq (tgt := 25) dX12_parts_10 (by decide) (zb_r _) (zb_r _) (fun c => ?_) (fun c => ?_)
  · replace h := h.1 c
    refine Z_iconst dX12_parts_25 ?_
    refine Z_istore_n (L' := [(2, 211), (0, x1), (0, x2), (0, 0), (9, 0), (9, 0), (9, 0), (9, 0), (9, 0), (9, 0), (9, 0), (9, 0), (9, 0), (9, 0), (9, 0), (9, 0)]) 3 dX12_parts_26 rfl (Nat.le_of_ble_eq_true rfl) rfl ?_
    refine Z_aload_n 0 dX12_parts_27 rfl rfl ?_
    refine Z_iload_n 1 dX12_parts_28 rfl rfl ?_
    refine Z_aload_n 0 dX12_parts_29 rfl rfl ?_
    obtain ⟨g5, h⟩ := h
    refine Z_get (T := TX12) (N := 30) (ci := 12) (t := 2) 14 dX12_parts_30 la_211 (z_leN la_211 (by decide)) rfl (by decide) inX12 (by decide) (flX12_45 rfl) rfl ?_
    refine Z_top (y := 221) ((Fix.get g5 la_211 14 10 (by decide +kernel)).trans (by clear h; omega)) ?_
    refine Z_invV (T := TX12) (N := 30) (ci := 12) (M' := mX12_bare) (ρ' := rX12_bare zN) (st := []) [(0, x1), (2, 221)] dX12_parts_33 rfl rfl la_211 (z_leN la_211 (by decide)) (by decide) rfl rfl (kX12_bare.cl (Nat.le_of_ble_eq_true rfl) (Nat.le_refl _) (Nat.le_refl _) (Nat.le_of_ble_eq_true rfl) (Nat.le_of_ble_eq_true rfl) (Nat.le_of_ble_eq_true rfl)) (mlX12_102 rfl) iX12_bare sX12_bare h (z_kv (fun σ7 h => ?_))
    refine Z_aload_n 0 dX12_parts_36 rfl rfl ?_
    refine Z_iload_n 2 dX12_parts_37 rfl rfl ?_
    refine Z_aload_n 0 dX12_parts_38 rfl rfl ?_
    obtain ⟨g8, h⟩ := h
    refine Z_get (T := TX12) (N := 30) (ci := 12) (t := 2) 15 dX12_parts_39 la_211 (z_leN la_211 (by decide)) rfl (by decide) inX12 (by decide) (flX12_48 rfl) rfl ?_
    refine Z_top (y := 222) ((Fix.get g8 la_211 15 11 (by decide +kernel)).trans (by clear h; omega)) ?_
    refine Z_invV (T := TX12) (N := 30) (ci := 12) (M' := mX12_bare) (ρ' := rX12_bare zN) (st := []) [(0, x2), (2, 222)] dX12_parts_42 rfl rfl la_211 (z_leN la_211 (by decide)) (by decide) rfl rfl (kX12_bare.cl (Nat.le_of_ble_eq_true rfl) (Nat.le_refl _) (Nat.le_refl _) (Nat.le_of_ble_eq_true rfl) (Nat.le_of_ble_eq_true rfl) (Nat.le_of_ble_eq_true rfl)) (mlX12_102 rfl) iX12_bare sX12_bare h (z_kv (fun σ10 h => ?_))
    refine Z_aload_n 0 dX12_parts_45 rfl rfl ?_
    obtain ⟨g11, h⟩ := h
    refine Z_get (T := TX12) (N := 30) (ci := 12) (t := 2) 15 dX12_parts_46 la_211 (z_leN la_211 (by decide)) rfl (by decide) inX12 (by decide) (flX12_48 rfl) rfl ?_
    refine Z_top (y := 222) ((Fix.get g11 la_211 15 11 (by decide +kernel)).trans (by clear h; omega)) ?_
    refine Z_invS (M' := mX12_length) (ρ' := rX12_length zN) (st := []) [(2, 222)] dX12_parts_49 rfl rfl (kX12_length.cl (Nat.le_of_ble_eq_true rfl) (Nat.le_refl _) (Nat.le_refl _) (Nat.le_of_ble_eq_true rfl) (Nat.le_of_ble_eq_true rfl) (Nat.le_of_ble_eq_true rfl)) (mlX12_106 rfl) sX12_length h (z_ki (fun r12 σ13 h => ?_))
    refine Z_istore (L' := [(2, 211), (0, x1), (0, x2), (0, 0), (0, r12), (9, 0), (9, 0), (9, 0), (9, 0), (9, 0), (9, 0), (9, 0), (9, 0), (9, 0), (9, 0), (9, 0)]) dX12_parts_52 (Nat.le_of_ble_eq_true rfl) rfl ?_
    refine Z_aload_n 0 dX12_parts_54 rfl rfl ?_
    obtain ⟨g14, h⟩ := h
    refine Z_get (T := TX12) (N := 30) (ci := 12) (t := 2) 14 dX12_parts_55 la_211 (z_leN la_211 (by decide)) rfl (by decide) inX12 (by decide) (flX12_45 rfl) rfl ?_
    refine Z_top (y := 221) ((Fix.get g14 la_211 14 10 (by decide +kernel)).trans (by clear h; omega)) ?_
    refine Z_invS (M' := mX12_length) (ρ' := rX12_length zN) (st := []) [(2, 221)] dX12_parts_58 rfl rfl (kX12_length.cl (Nat.le_of_ble_eq_true rfl) (Nat.le_refl _) (Nat.le_refl _) (Nat.le_of_ble_eq_true rfl) (Nat.le_of_ble_eq_true rfl) (Nat.le_of_ble_eq_true rfl)) (mlX12_106 rfl) sX12_length h (z_ki (fun r15 σ16 h => ?_))
    refine Z_istore (L' := [(2, 211), (0, x1), (0, x2), (0, 0), (0, r12), (0, r15), (9, 0), (9, 0), (9, 0), (9, 0), (9, 0), (9, 0), (9, 0), (9, 0), (9, 0), (9, 0)]) dX12_parts_61 (Nat.le_of_ble_eq_true rfl) rfl ?_
    refine Z_iconst dX12_parts_63 ?_
    refine Z_istore (L' := [(2, 211), (0, x1), (0, x2), (0, 0), (0, r12), (0, r15), (0, 0), (9, 0), (9, 0), (9, 0), (9, 0), (9, 0), (9, 0), (9, 0), (9, 0), (9, 0)]) dX12_parts_64 (Nat.le_of_ble_eq_true rfl) rfl ?_
    exact Z_few (z_few_k (z_few_k (z_few_d (z_few_k (z_few_k (z_few_k (z_few_k (z_few_k (z_few_k (z_few_k (z_few_k (z_few_k (z_few_k (z_few_k (z_few_k (z_few_k z_few_0)))))))))))))))) h
  · replace h := h.2 c
    refine Z_aload_n 0 dX12_parts_13 rfl rfl ?_
    refine Z_iload_n 1 dX12_parts_14 rfl rfl ?_
    refine Z_invV (T := TX12) (N := 30) (ci := 12) (M' := mX12_isZero) (ρ' := rX12_isZero zN) (st := []) [(0, x1)] dX12_parts_15 rfl rfl la_211 (z_leN la_211 (by decide)) (by decide) rfl rfl (kX12_isZero.cl (Nat.le_of_ble_eq_true rfl) (Nat.le_refl _) (Nat.le_refl _) (Nat.le_of_ble_eq_true rfl) (Nat.le_of_ble_eq_true rfl) (Nat.le_of_ble_eq_true rfl)) (mlX12_92 rfl) iX12_isZero sX12_isZero h (z_kz (fun r17 σ18 h => ?_))
    refine Z_zif_ne (tgt := 25) dX12_parts_18 (by decide) (fun c => ?_) (fun c => ?_)
    · replace h := h.1 c
      refine Z_iconst dX12_parts_25 ?_
      refine Z_istore_n (L' := [(2, 211), (0, x1), (0, x2), (0, 0), (9, 0), (9, 0), (9, 0), (9, 0), (9, 0), (9, 0), (9, 0), (9, 0), (9, 0), (9, 0), (9, 0), (9, 0)]) 3 dX12_parts_26 rfl (Nat.le_of_ble_eq_true rfl) rfl ?_
      refine Z_aload_n 0 dX12_parts_27 rfl rfl ?_
      refine Z_iload_n 1 dX12_parts_28 rfl rfl ?_
      refine Z_aload_n 0 dX12_parts_29 rfl rfl ?_
      obtain ⟨g19, h⟩ := h
      refine Z_get (T := TX12) (N := 30) (ci := 12) (t := 2) 14 dX12_parts_30 la_211 (z_leN la_211 (by decide)) rfl (by decide) inX12 (by decide) (flX12_45 rfl) rfl ?_
      refine Z_top (y := 221) ((Fix.get g19 la_211 14 10 (by decide +kernel)).trans (by clear h; omega)) ?_
      refine Z_invV (T := TX12) (N := 30) (ci := 12) (M' := mX12_bare) (ρ' := rX12_bare zN) (st := []) [(0, x1), (2, 221)] dX12_parts_33 rfl rfl la_211 (z_leN la_211 (by decide)) (by decide) rfl rfl (kX12_bare.cl (Nat.le_of_ble_eq_true rfl) (Nat.le_refl _) (Nat.le_refl _) (Nat.le_of_ble_eq_true rfl) (Nat.le_of_ble_eq_true rfl) (Nat.le_of_ble_eq_true rfl)) (mlX12_102 rfl) iX12_bare sX12_bare h (z_kv (fun σ21 h => ?_))
      refine Z_aload_n 0 dX12_parts_36 rfl rfl ?_
      refine Z_iload_n 2 dX12_parts_37 rfl rfl ?_
      refine Z_aload_n 0 dX12_parts_38 rfl rfl ?_
      obtain ⟨g22, h⟩ := h
      refine Z_get (T := TX12) (N := 30) (ci := 12) (t := 2) 15 dX12_parts_39 la_211 (z_leN la_211 (by decide)) rfl (by decide) inX12 (by decide) (flX12_48 rfl) rfl ?_
      refine Z_top (y := 222) ((Fix.get g22 la_211 15 11 (by decide +kernel)).trans (by clear h; omega)) ?_
      refine Z_invV (T := TX12) (N := 30) (ci := 12) (M' := mX12_bare) (ρ' := rX12_bare zN) (st := []) [(0, x2), (2, 222)] dX12_parts_42 rfl rfl la_211 (z_leN la_211 (by decide)) (by decide) rfl rfl (kX12_bare.cl (Nat.le_of_ble_eq_true rfl) (Nat.le_refl _) (Nat.le_refl _) (Nat.le_of_ble_eq_true rfl) (Nat.le_of_ble_eq_true rfl) (Nat.le_of_ble_eq_true rfl)) (mlX12_102 rfl) iX12_bare sX12_bare h (z_kv (fun σ24 h => ?_))
      refine Z_aload_n 0 dX12_parts_45 rfl rfl ?_
      obtain ⟨g25, h⟩ := h
      refine Z_get (T := TX12) (N := 30) (ci := 12) (t := 2) 15 dX12_parts_46 la_211 (z_leN la_211 (by decide)) rfl (by decide) inX12 (by decide) (flX12_48 rfl) rfl ?_
      refine Z_top (y := 222) ((Fix.get g25 la_211 15 11 (by decide +kernel)).trans (by clear h; omega)) ?_
      refine Z_invS (M' := mX12_length) (ρ' := rX12_length zN) (st := []) [(2, 222)] dX12_parts_49 rfl rfl (kX12_length.cl (Nat.le_of_ble_eq_true rfl) (Nat.le_refl _) (Nat.le_refl _) (Nat.le_of_ble_eq_true rfl) (Nat.le_of_ble_eq_true rfl) (Nat.le_of_ble_eq_true rfl)) (mlX12_106 rfl) sX12_length h (z_ki (fun r26 σ27 h => ?_))
      refine Z_istore (L' := [(2, 211), (0, x1), (0, x2), (0, 0), (0, r26), (9, 0), (9, 0), (9, 0), (9, 0), (9, 0), (9, 0), (9, 0), (9, 0), (9, 0), (9, 0), (9, 0)]) dX12_parts_52 (Nat.le_of_ble_eq_true rfl) rfl ?_
      refine Z_aload_n 0 dX12_parts_54 rfl rfl ?_
      obtain ⟨g28, h⟩ := h
      refine Z_get (T := TX12) (N := 30) (ci := 12) (t := 2) 14 dX12_parts_55 la_211 (z_leN la_211 (by decide)) rfl (by decide) inX12 (by decide) (flX12_45 rfl) rfl ?_
      refine Z_top (y := 221) ((Fix.get g28 la_211 14 10 (by decide +kernel)).trans (by clear h; omega)) ?_
      refine Z_invS (M' := mX12_length) (ρ' := rX12_length zN) (st := []) [(2, 221)] dX12_parts_58 rfl rfl (kX12_length.cl (Nat.le_of_ble_eq_true rfl) (Nat.le_refl _) (Nat.le_refl _) (Nat.le_of_ble_eq_true rfl) (Nat.le_of_ble_eq_true rfl) (Nat.le_of_ble_eq_true rfl)) (mlX12_106 rfl) sX12_length h (z_ki (fun r29 σ30 h => ?_))
      refine Z_istore (L' := [(2, 211), (0, x1), (0, x2), (0, 0), (0, r26), (0, r29), (9, 0), (9, 0), (9, 0), (9, 0), (9, 0), (9, 0), (9, 0), (9, 0), (9, 0), (9, 0)]) dX12_parts_61 (Nat.le_of_ble_eq_true rfl) rfl ?_
      refine Z_iconst dX12_parts_63 ?_
      refine Z_istore (L' := [(2, 211), (0, x1), (0, x2), (0, 0), (0, r26), (0, r29), (0, 0), (9, 0), (9, 0), (9, 0), (9, 0), (9, 0), (9, 0), (9, 0), (9, 0), (9, 0)]) dX12_parts_64 (Nat.le_of_ble_eq_true rfl) rfl ?_
      exact Z_few (z_few_k (z_few_k (z_few_d (z_few_k (z_few_k (z_few_k (z_few_k (z_few_k (z_few_k (z_few_k (z_few_k (z_few_k (z_few_k (z_few_k (z_few_k (z_few_k z_few_0)))))))))))))))) h
    · replace h := h.2 c
      refine Z_iconst dX12_parts_21 ?_
      refine Z_goto (tgt := 26) dX12_parts_22 (by decide) ?_
      refine Z_istore_n (L' := [(2, 211), (0, x1), (0, x2), (0, 1), (9, 0), (9, 0), (9, 0), (9, 0), (9, 0), (9, 0), (9, 0), (9, 0), (9, 0), (9, 0), (9, 0), (9, 0)]) 3 dX12_parts_26 rfl (Nat.le_of_ble_eq_true rfl) rfl ?_
      refine Z_aload_n 0 dX12_parts_27 rfl rfl ?_
      refine Z_iload_n 1 dX12_parts_28 rfl rfl ?_
      refine Z_aload_n 0 dX12_parts_29 rfl rfl ?_
      obtain ⟨g31, h⟩ := h
      refine Z_get (T := TX12) (N := 30) (ci := 12) (t := 2) 14 dX12_parts_30 la_211 (z_leN la_211 (by decide)) rfl (by decide) inX12 (by decide) (flX12_45 rfl) rfl ?_
      refine Z_top (y := 221) ((Fix.get g31 la_211 14 10 (by decide +kernel)).trans (by clear h; omega)) ?_
      refine Z_invV (T := TX12) (N := 30) (ci := 12) (M' := mX12_bare) (ρ' := rX12_bare zN) (st := []) [(0, x1), (2, 221)] dX12_parts_33 rfl rfl la_211 (z_leN la_211 (by decide)) (by decide) rfl rfl (kX12_bare.cl (Nat.le_of_ble_eq_true rfl) (Nat.le_refl _) (Nat.le_refl _) (Nat.le_of_ble_eq_true rfl) (Nat.le_of_ble_eq_true rfl) (Nat.le_of_ble_eq_true rfl)) (mlX12_102 rfl) iX12_bare sX12_bare h (z_kv (fun σ33 h => ?_))
      refine Z_aload_n 0 dX12_parts_36 rfl rfl ?_
      refine Z_iload_n 2 dX12_parts_37 rfl rfl ?_
      refine Z_aload_n 0 dX12_parts_38 rfl rfl ?_
      obtain ⟨g34, h⟩ := h
      refine Z_get (T := TX12) (N := 30) (ci := 12) (t := 2) 15 dX12_parts_39 la_211 (z_leN la_211 (by decide)) rfl (by decide) inX12 (by decide) (flX12_48 rfl) rfl ?_
      refine Z_top (y := 222) ((Fix.get g34 la_211 15 11 (by decide +kernel)).trans (by clear h; omega)) ?_
      refine Z_invV (T := TX12) (N := 30) (ci := 12) (M' := mX12_bare) (ρ' := rX12_bare zN) (st := []) [(0, x2), (2, 222)] dX12_parts_42 rfl rfl la_211 (z_leN la_211 (by decide)) (by decide) rfl rfl (kX12_bare.cl (Nat.le_of_ble_eq_true rfl) (Nat.le_refl _) (Nat.le_refl _) (Nat.le_of_ble_eq_true rfl) (Nat.le_of_ble_eq_true rfl) (Nat.le_of_ble_eq_true rfl)) (mlX12_102 rfl) iX12_bare sX12_bare h (z_kv (fun σ36 h => ?_))
      refine Z_aload_n 0 dX12_parts_45 rfl rfl ?_
      obtain ⟨g37, h⟩ := h
      refine Z_get (T := TX12) (N := 30) (ci := 12) (t := 2) 15 dX12_parts_46 la_211 (z_leN la_211 (by decide)) rfl (by decide) inX12 (by decide) (flX12_48 rfl) rfl ?_
      refine Z_top (y := 222) ((Fix.get g37 la_211 15 11 (by decide +kernel)).trans (by clear h; omega)) ?_
      refine Z_invS (M' := mX12_length) (ρ' := rX12_length zN) (st := []) [(2, 222)] dX12_parts_49 rfl rfl (kX12_length.cl (Nat.le_of_ble_eq_true rfl) (Nat.le_refl _) (Nat.le_refl _) (Nat.le_of_ble_eq_true rfl) (Nat.le_of_ble_eq_true rfl) (Nat.le_of_ble_eq_true rfl)) (mlX12_106 rfl) sX12_length h (z_ki (fun r38 σ39 h => ?_))
      refine Z_istore (L' := [(2, 211), (0, x1), (0, x2), (0, 1), (0, r38), (9, 0), (9, 0), (9, 0), (9, 0), (9, 0), (9, 0), (9, 0), (9, 0), (9, 0), (9, 0), (9, 0)]) dX12_parts_52 (Nat.le_of_ble_eq_true rfl) rfl ?_
      refine Z_aload_n 0 dX12_parts_54 rfl rfl ?_
      obtain ⟨g40, h⟩ := h
      refine Z_get (T := TX12) (N := 30) (ci := 12) (t := 2) 14 dX12_parts_55 la_211 (z_leN la_211 (by decide)) rfl (by decide) inX12 (by decide) (flX12_45 rfl) rfl ?_
      refine Z_top (y := 221) ((Fix.get g40 la_211 14 10 (by decide +kernel)).trans (by clear h; omega)) ?_
      refine Z_invS (M' := mX12_length) (ρ' := rX12_length zN) (st := []) [(2, 221)] dX12_parts_58 rfl rfl (kX12_length.cl (Nat.le_of_ble_eq_true rfl) (Nat.le_refl _) (Nat.le_refl _) (Nat.le_of_ble_eq_true rfl) (Nat.le_of_ble_eq_true rfl) (Nat.le_of_ble_eq_true rfl)) (mlX12_106 rfl) sX12_length h (z_ki (fun r41 σ42 h => ?_))
      refine Z_istore (L' := [(2, 211), (0, x1), (0, x2), (0, 1), (0, r38), (0, r41), (9, 0), (9, 0), (9, 0), (9, 0), (9, 0), (9, 0), (9, 0), (9, 0), (9, 0), (9, 0)]) dX12_parts_61 (Nat.le_of_ble_eq_true rfl) rfl ?_
      refine Z_iconst dX12_parts_63 ?_
      refine Z_istore (L' := [(2, 211), (0, x1), (0, x2), (0, 1), (0, r38), (0, r41), (0, 0), (9, 0), (9, 0), (9, 0), (9, 0), (9, 0), (9, 0), (9, 0), (9, 0), (9, 0)]) dX12_parts_64 (Nat.le_of_ble_eq_true rfl) rfl ?_
      exact Z_few (z_few_k (z_few_k (z_few_d (z_few_k (z_few_k (z_few_k (z_few_k (z_few_k (z_few_k (z_few_k (z_few_k (z_few_k (z_few_k (z_few_k (z_few_k (z_few_k z_few_0)))))))))))))))) h
theorem bk_X12_parts_66 {X : ZS} {σ : ZM} {T : ZM → Prop} {x1 : Int} {x3 : Int} {x4 : Int} {x5 : Int} {x6 : Int} (h : (r32 x6) ∧ ((16 ≤ x6) → Z X (rX12_parts zN) mX12_parts 94 [(2, 211), (0, x1), (9, 0), (0, x3), (0, x4), (9, 0), (0, (x5 - x4)), (9, 0), (9, 0), (9, 0), (9, 0), (9, 0), (9, 0), (9, 0), (9, 0), (9, 0)] [] zN σ (zQv T)) ∧ ((¬ (16 ≤ x6)) → (Fix σ) ∧ (0 ≤ x6) ∧ (x6 < 16) ∧ Z X (rX12_parts zN) mX12_parts 66 [(2, 211), (0, x1), (9, 0), (0, x3), (0, x4), (0, x5), (0, (x6 + 1)), (9, 0), (9, 0), (9, 0), (9, 0), (9, 0), (9, 0), (9, 0), (9, 0), (9, 0)] [] zN (z_up σ 223 x6 0) (zQv T))) : Z X (rX12_parts zN) mX12_parts 66 [(2, 211), (0, x1), (9, 0), (0, x3), (0, x4), (0, x5), (0, x6), (9, 0), (9, 0), (9, 0), (9, 0), (9, 0), (9, 0), (9, 0), (9, 0), (9, 0)] [] zN σ (zQv T) := by
  refine Z_iload dX12_parts_66 rfl ?_
  refine Z_bipush dX12_parts_68 (by decide) ?_
  obtain ⟨g1, h⟩ := h
  refine Z_icmp_ge (tgt := 87) dX12_parts_70 (by decide) g1 ⟨by decide, by decide⟩ (fun c => ?_) (fun c => ?_)
  · replace h := h.1 c
    refine Z_iload dX12_parts_87 rfl ?_
    refine Z_iload dX12_parts_89 rfl ?_
    refine Z_isub dX12_parts_91 ?_
    refine Z_istore (L' := [(2, 211), (0, x1), (9, 0), (0, x3), (0, x4), (0, x5), (0, (x5 - x4)), (9, 0), (9, 0), (9, 0), (9, 0), (9, 0), (9, 0), (9, 0), (9, 0), (9, 0)]) dX12_parts_92 (Nat.le_of_ble_eq_true rfl) rfl ?_
    exact Z_few (z_few_k (z_few_k (z_few_k (z_few_k (z_few_k (z_few_d (z_few_k (z_few_k (z_few_k (z_few_k (z_few_k (z_few_k (z_few_k (z_few_k (z_few_k (z_few_k z_few_0)))))))))))))))) h
  · replace h := h.2 c
    refine Z_aload_n 0 dX12_parts_73 rfl rfl ?_
    obtain ⟨g2, h⟩ := h
    refine Z_get (T := TX12) (N := 30) (ci := 12) (t := 2) 16 dX12_parts_74 la_211 (z_leN la_211 (by decide)) rfl (by decide) inX12 (by decide) (flX12_51 rfl) rfl ?_
    refine Z_top (y := 223) ((Fix.get g2 la_211 16 12 (by decide +kernel)).trans (by clear h; omega)) ?_
    refine Z_iload dX12_parts_77 rfl ?_
    refine Z_lconst (x := 0) dX12_parts_79 rfl ?_
    obtain ⟨g3, h⟩ := h
    obtain ⟨g4, h⟩ := h
    refine Z_last dX12_parts_80 la_223 (z_leN la_223 (by decide)) g3 g4 ?_
    refine Z_iinc (L' := [(2, 211), (0, x1), (9, 0), (0, x3), (0, x4), (0, x5), (0, (x6 + 1)), (9, 0), (9, 0), (9, 0), (9, 0), (9, 0), (9, 0), (9, 0), (9, 0), (9, 0)]) dX12_parts_81 rfl (Nat.le_of_ble_eq_true rfl) rfl ?_
    refine Z_goto (tgt := 66) dX12_parts_84 (by decide) ?_
    exact Z_few (z_few_k (z_few_k (z_few_k (z_few_k (z_few_k (z_few_k (z_few_k (z_few_k (z_few_k (z_few_k (z_few_k (z_few_k (z_few_k (z_few_k (z_few_k (z_few_k z_few_0)))))))))))))))) h
theorem bk_X12_parts_94 {X : ZS} {σ : ZM} {T : ZM → Prop} {x1 : Int} {x3 : Int} {x4 : Int} {x6 : Int} (h : (r32 x6) ∧ ((x6 < 0) → Z X (rX12_parts zN) mX12_parts 266 [(2, 211), (0, x1), (9, 0), (0, x3), (9, 0), (9, 0), (0, 0), (9, 0), (9, 0), (9, 0), (9, 0), (9, 0), (9, 0), (9, 0), (9, 0), (9, 0)] [] zN σ (zQv T)) ∧ ((¬ (x6 < 0)) → Z X (rX12_parts zN) mX12_parts 107 [(2, 211), (0, x1), (9, 0), (0, x3), (0, x4), (9, 0), (0, x6), (1, 0), (9, 0), (1, 999999999), (9, 0), (9, 0), (9, 0), (9, 0), (9, 0), (9, 0)] [] zN σ (zQv T))) : Z X (rX12_parts zN) mX12_parts 94 [(2, 211), (0, x1), (9, 0), (0, x3), (0, x4), (9, 0), (0, x6), (9, 0), (9, 0), (9, 0), (9, 0), (9, 0), (9, 0), (9, 0), (9, 0), (9, 0)] [] zN σ (zQv T) := by
  refine Z_iload dX12_parts_94 rfl ?_
  obtain ⟨g1, h⟩ := h
  refine Z_if_lt (tgt := 263) dX12_parts_96 (by decide) g1 (fun c => ?_) (fun c => ?_)
  · replace h := h.1 c
    refine Z_iconst dX12_parts_263 ?_
    refine Z_istore (L' := [(2, 211), (0, x1), (9, 0), (0, x3), (0, x4), (9, 0), (0, 0), (9, 0), (9, 0), (9, 0), (9, 0), (9, 0), (9, 0), (9, 0), (9, 0), (9, 0)]) dX12_parts_264 (Nat.le_of_ble_eq_true rfl) rfl ?_
    exact Z_few (z_few_k (z_few_k (z_few_k (z_few_k (z_few_d (z_few_k (z_few_k (z_few_k (z_few_k (z_few_k (z_few_k (z_few_k (z_few_k (z_few_k (z_few_k (z_few_k z_few_0)))))))))))))))) h
  · replace h := h.2 c
    refine Z_lconst (x := 0) dX12_parts_99 rfl ?_
    refine Z_lstore (L' := [(2, 211), (0, x1), (9, 0), (0, x3), (0, x4), (9, 0), (0, x6), (1, 0), (9, 0), (9, 0), (9, 0), (9, 0), (9, 0), (9, 0), (9, 0), (9, 0)]) dX12_parts_100 (Nat.le_of_ble_eq_true rfl) rfl ?_
    refine Z_ldc2 (x := 999999999) dX12_parts_102 ctX12_110 rfl ?_
    refine Z_lstore (L' := [(2, 211), (0, x1), (9, 0), (0, x3), (0, x4), (9, 0), (0, x6), (1, 0), (9, 0), (1, 999999999), (9, 0), (9, 0), (9, 0), (9, 0), (9, 0), (9, 0)]) dX12_parts_105 (Nat.le_of_ble_eq_true rfl) rfl ?_
    exact Z_few (z_few_k (z_few_k (z_few_k (z_few_k (z_few_k (z_few_k (z_few_k (z_few_k (z_few_k (z_few_k (z_few_k (z_few_k (z_few_k (z_few_k (z_few_k (z_few_k z_few_0)))))))))))))))) h
theorem bk_X12_parts_107 {X : ZS} {σ : ZM} {T : ZM → Prop} {x1 : Int} {x3 : Int} {x4 : Int} {x6 : Int} {x7 : Int} {x9 : Int} (h : (r64 x7) ∧ (r64 x9) ∧ ((x9 ≤ x7) → (Fix σ) ∧ (0 ≤ x6) ∧ (x6 < 16) ∧ Z X (rX12_parts zN) mX12_parts 172 [(2, 211), (0, x1), (9, 0), (0, x3), (0, x4), (9, 0), (0, x6), (1, x7), (9, 0), (9, 0), (9, 0), (1, 0), (9, 0), (0, 0), (9, 0), (9, 0)] [] zN (z_up σ 223 x6 x7) (zQv T)) ∧ ((¬ (x9 ≤ x7)) → (r64 ((x7 + x9) + 1)) ∧ ZC X (rX12_goesInto zN) mX12_goesInto [(2, 211), (1, (Int.tdiv ((x7 + x9) + 1) 2)), (0, x6), (0, x4)] zN σ (zQz (fun r7 σ8 => ((r7 = false) → Z X (rX12_parts zN) mX12_parts 107 [(2, 211), (0, x1), (9, 0), (0, x3), (0, x4), (9, 0), (0, x6), (1, x7), (9, 0), (1, ((Int.tdiv ((x7 + x9) + 1) 2) - 1)), (9, 0), (9, 0), (9, 0), (9, 0), (9, 0), (9, 0)] [] zN σ8 (zQv T)) ∧ ((r7 = true) → Z X (rX12_parts zN) mX12_parts 107 [(2, 211), (0, x1), (9, 0), (0, x3), (0, x4), (9, 0), (0, x6), (1, (Int.tdiv ((x7 + x9) + 1) 2)), (9, 0), (1, x9), (9, 0), (9, 0), (9, 0), (9, 0), (9, 0), (9, 0)] [] zN σ8 (zQv T)))))) : Z X (rX12_parts zN) mX12_parts 107 [(2, 211), (0, x1), (9, 0), (0, x3), (0, x4), (9, 0), (0, x6), (1, x7), (9, 0), (1, x9), (9, 0), (9, 0), (9, 0), (9, 0), (9, 0), (9, 0)] [] zN σ (zQv T) := by
  refine Z_lload dX12_parts_107 rfl ?_
  refine Z_lload dX12_parts_109 rfl ?_
  obtain ⟨g1, h⟩ := h
  obtain ⟨g2, h⟩ := h
  refine Z_lc_ge (tgt := 157) dX12_parts_111 dX12_parts_112 (by decide) g1 g2 (fun c => ?_) (fun c => ?_)
  · replace h := h.1 c
    refine Z_aload_n 0 dX12_parts_157 rfl rfl ?_
    obtain ⟨g3, h⟩ := h
    refine Z_get (T := TX12) (N := 30) (ci := 12) (t := 2) 16 dX12_parts_158 la_211 (z_leN la_211 (by decide)) rfl (by decide) inX12 (by decide) (flX12_51 rfl) rfl ?_
    refine Z_top (y := 223) ((Fix.get g3 la_211 16 12 (by decide +kernel)).trans (by clear h; omega)) ?_
    refine Z_iload dX12_parts_161 rfl ?_
    refine Z_lload dX12_parts_163 rfl ?_
    obtain ⟨g4, h⟩ := h
    obtain ⟨g5, h⟩ := h
    refine Z_last dX12_parts_165 la_223 (z_leN la_223 (by decide)) g4 g5 ?_
    refine Z_lconst (x := 0) dX12_parts_166 rfl ?_
    refine Z_lstore (L' := [(2, 211), (0, x1), (9, 0), (0, x3), (0, x4), (9, 0), (0, x6), (1, x7), (9, 0), (1, x9), (9, 0), (1, 0), (9, 0), (9, 0), (9, 0), (9, 0)]) dX12_parts_167 (Nat.le_of_ble_eq_true rfl) rfl ?_
    refine Z_iconst dX12_parts_169 ?_
    refine Z_istore (L' := [(2, 211), (0, x1), (9, 0), (0, x3), (0, x4), (9, 0), (0, x6), (1, x7), (9, 0), (1, x9), (9, 0), (1, 0), (9, 0), (0, 0), (9, 0), (9, 0)]) dX12_parts_170 (Nat.le_of_ble_eq_true rfl) rfl ?_
    exact Z_few (z_few_k (z_few_k (z_few_k (z_few_k (z_few_k (z_few_k (z_few_k (z_few_k (z_few_k (z_few_d (z_few_k (z_few_k (z_few_k (z_few_k (z_few_k (z_few_k z_few_0)))))))))))))))) h
  · replace h := h.2 c
    refine Z_lload dX12_parts_115 rfl ?_
    refine Z_lload dX12_parts_117 rfl ?_
    refine Z_ladd dX12_parts_119 ?_
    refine Z_lconst (x := 1) dX12_parts_120 rfl ?_
    refine Z_ladd dX12_parts_121 ?_
    refine Z_ldc2 (x := 2) dX12_parts_122 ctX12_112 rfl ?_
    obtain ⟨g6, h⟩ := h
    refine Z_ldiv dX12_parts_125 g6 ⟨by decide, by decide⟩ (by decide) ?_
    refine Z_lstore (L' := [(2, 211), (0, x1), (9, 0), (0, x3), (0, x4), (9, 0), (0, x6), (1, x7), (9, 0), (1, x9), (9, 0), (1, (Int.tdiv ((x7 + x9) + 1) 2)), (9, 0), (9, 0), (9, 0), (9, 0)]) dX12_parts_126 (Nat.le_of_ble_eq_true rfl) rfl ?_
    refine Z_aload_n 0 dX12_parts_128 rfl rfl ?_
    refine Z_lload dX12_parts_129 rfl ?_
    refine Z_iload dX12_parts_131 rfl ?_
    refine Z_iload dX12_parts_133 rfl ?_
    refine Z_invV (T := TX12) (N := 30) (ci := 12) (M' := mX12_goesInto) (ρ' := rX12_goesInto zN) (st := []) [(1, (Int.tdiv ((x7 + x9) + 1) 2)), (0, x6), (0, x4)] dX12_parts_135 rfl rfl la_211 (z_leN la_211 (by decide)) (by decide) rfl rfl (kX12_goesInto.cl (Nat.le_of_ble_eq_true rfl) (Nat.le_refl _) (Nat.le_refl _) (Nat.le_of_ble_eq_true rfl) (Nat.le_of_ble_eq_true rfl) (Nat.le_of_ble_eq_true rfl)) (mlX12_114 rfl) iX12_goesInto sX12_goesInto h (z_kz (fun r7 σ8 h => ?_))
    refine Z_zif_eq (tgt := 148) dX12_parts_138 (by decide) (fun c => ?_) (fun c => ?_)
    · replace h := h.1 c
      refine Z_lload dX12_parts_148 rfl ?_
      refine Z_lconst (x := 1) dX12_parts_150 rfl ?_
      refine Z_lsub dX12_parts_151 ?_
      refine Z_lstore (L' := [(2, 211), (0, x1), (9, 0), (0, x3), (0, x4), (9, 0), (0, x6), (1, x7), (9, 0), (1, ((Int.tdiv ((x7 + x9) + 1) 2) - 1)), (9, 0), (1, (Int.tdiv ((x7 + x9) + 1) 2)), (9, 0), (9, 0), (9, 0), (9, 0)]) dX12_parts_152 (Nat.le_of_ble_eq_true rfl) rfl ?_
      refine Z_goto (tgt := 107) dX12_parts_154 (by decide) ?_
      exact Z_few (z_few_k (z_few_k (z_few_k (z_few_k (z_few_k (z_few_k (z_few_k (z_few_k (z_few_k (z_few_k (z_few_k (z_few_d (z_few_k (z_few_k (z_few_k (z_few_k z_few_0)))))))))))))))) h
    · replace h := h.2 c
      refine Z_lload dX12_parts_141 rfl ?_
      refine Z_lstore (L' := [(2, 211), (0, x1), (9, 0), (0, x3), (0, x4), (9, 0), (0, x6), (1, (Int.tdiv ((x7 + x9) + 1) 2)), (9, 0), (1, x9), (9, 0), (1, (Int.tdiv ((x7 + x9) + 1) 2)), (9, 0), (9, 0), (9, 0), (9, 0)]) dX12_parts_143 (Nat.le_of_ble_eq_true rfl) rfl ?_
      refine Z_goto (tgt := 154) dX12_parts_145 (by decide) ?_
      refine Z_goto (tgt := 107) dX12_parts_154 (by decide) ?_
      exact Z_few (z_few_k (z_few_k (z_few_k (z_few_k (z_few_k (z_few_k (z_few_k (z_few_k (z_few_k (z_few_k (z_few_k (z_few_d (z_few_k (z_few_k (z_few_k (z_few_k z_few_0)))))))))))))))) h
theorem bk_X12_parts_172 {X : ZS} {σ : ZM} {T : ZM → Prop} {x1 : Int} {x3 : Int} {x4 : Int} {x6 : Int} {x7 : Int} {x11 : Int} {x13 : Int} (h : (r32 (x13 + x6)) ∧ ((16 ≤ (x13 + x6)) → Z X (rX12_parts zN) mX12_parts 94 [(2, 211), (0, x1), (9, 0), (0, x3), (0, x4), (9, 0), (0, (x6 + (-1))), (9, 0), (9, 0), (9, 0), (9, 0), (9, 0), (9, 0), (9, 0), (9, 0), (9, 0)] [] zN σ (zQv T)) ∧ ((¬ (16 ≤ (x13 + x6))) → (r32 x13) ∧ (r32 x4) ∧ ((x13 < x4) → Z X (rX12_parts zN) mX12_parts 196 [(2, 211), (0, x1), (9, 0), (0, x3), (0, x4), (9, 0), (0, x6), (1, x7), (9, 0), (9, 0), (9, 0), (1, x11), (9, 0), (0, x13), (9, 0), (9, 0)] [] zN σ (zQv T)) ∧ ((¬ (x13 < x4)) → (r64 x11) ∧ ((x11 = 0) → Z X (rX12_parts zN) mX12_parts 94 [(2, 211), (0, x1), (9, 0), (0, x3), (0, x4), (9, 0), (0, (x6 + (-1))), (9, 0), (9, 0), (9, 0), (9, 0), (9, 0), (9, 0), (9, 0), (9, 0), (9, 0)] [] zN σ (zQv T)) ∧ ((¬ x11 = 0) → Z X (rX12_parts zN) mX12_parts 196 [(2, 211), (0, x1), (9, 0), (0, x3), (0, x4), (9, 0), (0, x6), (1, x7), (9, 0), (9, 0), (9, 0), (1, x11), (9, 0), (0, x13), (9, 0), (9, 0)] [] zN σ (zQv T))))) : Z X (rX12_parts zN) mX12_parts 172 [(2, 211), (0, x1), (9, 0), (0, x3), (0, x4), (9, 0), (0, x6), (1, x7), (9, 0), (9, 0), (9, 0), (1, x11), (9, 0), (0, x13), (9, 0), (9, 0)] [] zN σ (zQv T) := by
  refine Z_iload dX12_parts_172 rfl ?_
  refine Z_iload dX12_parts_174 rfl ?_
  refine Z_iadd dX12_parts_176 ?_
  refine Z_bipush dX12_parts_177 (by decide) ?_
  obtain ⟨g1, h⟩ := h
  refine Z_icmp_ge (tgt := 257) dX12_parts_179 (by decide) g1 ⟨by decide, by decide⟩ (fun c => ?_) (fun c => ?_)
  · replace h := h.1 c
    refine Z_iinc (L' := [(2, 211), (0, x1), (9, 0), (0, x3), (0, x4), (9, 0), (0, (x6 + (-1))), (1, x7), (9, 0), (9, 0), (9, 0), (1, x11), (9, 0), (0, x13), (9, 0), (9, 0)]) dX12_parts_257 rfl (Nat.le_of_ble_eq_true rfl) rfl ?_
    refine Z_goto (tgt := 94) dX12_parts_260 (by decide) ?_
    exact Z_few (z_few_k (z_few_k (z_few_k (z_few_k (z_few_k (z_few_k (z_few_k (z_few_d (z_few_k (z_few_k (z_few_k (z_few_d (z_few_k (z_few_d (z_few_k (z_few_k z_few_0)))))))))))))))) h
  · replace h := h.2 c
    refine Z_iload dX12_parts_182 rfl ?_
    refine Z_iload dX12_parts_184 rfl ?_
    obtain ⟨g2, h⟩ := h
    obtain ⟨g3, h⟩ := h
    refine Z_icmp_lt (tgt := 196) dX12_parts_186 (by decide) g2 g3 (fun c => ?_) (fun c => ?_)
    · replace h := h.1 c
      exact Z_few (z_few_k (z_few_k (z_few_k (z_few_k (z_few_k (z_few_k (z_few_k (z_few_k (z_few_k (z_few_k (z_few_k (z_few_k (z_few_k (z_few_k (z_few_k (z_few_k z_few_0)))))))))))))))) h
    · replace h := h.2 c
      refine Z_lload dX12_parts_189 rfl ?_
      refine Z_lconst (x := 0) dX12_parts_191 rfl ?_
      obtain ⟨g4, h⟩ := h
      refine Z_lc_eq (tgt := 257) dX12_parts_192 dX12_parts_193 (by decide) g4 ⟨by decide, by decide⟩ (fun c => ?_) (fun c => ?_)
      · replace h := h.1 c
        refine Z_iinc (L' := [(2, 211), (0, x1), (9, 0), (0, x3), (0, x4), (9, 0), (0, (x6 + (-1))), (1, x7), (9, 0), (9, 0), (9, 0), (1, x11), (9, 0), (0, x13), (9, 0), (9, 0)]) dX12_parts_257 rfl (Nat.le_of_ble_eq_true rfl) rfl ?_
        refine Z_goto (tgt := 94) dX12_parts_260 (by decide) ?_
        exact Z_few (z_few_k (z_few_k (z_few_k (z_few_k (z_few_k (z_few_k (z_few_k (z_few_d (z_few_k (z_few_k (z_few_k (z_few_d (z_few_k (z_few_d (z_few_k (z_few_k z_few_0)))))))))))))))) h
      · replace h := h.2 c
        exact Z_few (z_few_k (z_few_k (z_few_k (z_few_k (z_few_k (z_few_k (z_few_k (z_few_k (z_few_k (z_few_k (z_few_k (z_few_k (z_few_k (z_few_k (z_few_k (z_few_k z_few_0)))))))))))))))) h
theorem bk_X12_parts_196 {X : ZS} {σ : ZM} {T : ZM → Prop} {x1 : Int} {x3 : Int} {x4 : Int} {x6 : Int} {x7 : Int} {x11 : Int} {x13 : Int} (h : (Fix σ) ∧ (0 ≤ (x13 + x6)) ∧ ((x13 + x6) < 16) ∧ (0 ≤ x13) ∧ (x13 < 16) ∧ (r64 (((σ 221 (x13 + x6)) - (x7 * (σ 222 x13))) - x11)) ∧ Z X (rX12_parts zN) mX12_parts 172 [(2, 211), (0, x1), (9, 0), (0, x3), (0, x4), (9, 0), (0, x6), (1, x7), (9, 0), (9, 0), (9, 0), (1, (-((((σ 221 (x13 + x6)) - (x7 * (σ 222 x13))) - x11) / 1000000000))), (9, 0), (0, (x13 + 1)), (9, 0), (9, 0)] [] zN (z_up σ 221 (x13 + x6) ((((σ 221 (x13 + x6)) - (x7 * (σ 222 x13))) - x11) % 1000000000)) (zQv T)) : Z X (rX12_parts zN) mX12_parts 196 [(2, 211), (0, x1), (9, 0), (0, x3), (0, x4), (9, 0), (0, x6), (1, x7), (9, 0), (9, 0), (9, 0), (1, x11), (9, 0), (0, x13), (9, 0), (9, 0)] [] zN σ (zQv T) := by
  refine Z_aload_n 0 dX12_parts_196 rfl rfl ?_
  obtain ⟨g1, h⟩ := h
  refine Z_get (T := TX12) (N := 30) (ci := 12) (t := 2) 14 dX12_parts_197 la_211 (z_leN la_211 (by decide)) rfl (by decide) inX12 (by decide) (flX12_45 rfl) rfl ?_
  refine Z_top (y := 221) ((Fix.get g1 la_211 14 10 (by decide +kernel)).trans (by clear h; omega)) ?_
  refine Z_iload dX12_parts_200 rfl ?_
  refine Z_iload dX12_parts_202 rfl ?_
  refine Z_iadd dX12_parts_204 ?_
  obtain ⟨g2, h⟩ := h
  obtain ⟨g3, h⟩ := h
  refine Z_lald dX12_parts_205 la_221 (z_leN la_221 (by decide)) g2 g3 ?_
  refine Z_lload dX12_parts_206 rfl ?_
  refine Z_aload_n 0 dX12_parts_208 rfl rfl ?_
  refine Z_get (T := TX12) (N := 30) (ci := 12) (t := 2) 15 dX12_parts_209 la_211 (z_leN la_211 (by decide)) rfl (by decide) inX12 (by decide) (flX12_48 rfl) rfl ?_
  refine Z_top (y := 222) ((Fix.get g1 la_211 15 11 (by decide +kernel)).trans (by clear h; omega)) ?_
  refine Z_iload dX12_parts_212 rfl ?_
  obtain ⟨g4, h⟩ := h
  obtain ⟨g5, h⟩ := h
  refine Z_lald dX12_parts_214 la_222 (z_leN la_222 (by decide)) g4 g5 ?_
  refine Z_lmul dX12_parts_215 ?_
  refine Z_lsub dX12_parts_216 ?_
  refine Z_lload dX12_parts_217 rfl ?_
  refine Z_lsub dX12_parts_219 ?_
  refine Z_lstore (L' := [(2, 211), (0, x1), (9, 0), (0, x3), (0, x4), (9, 0), (0, x6), (1, x7), (9, 0), (9, 0), (9, 0), (1, x11), (9, 0), (0, x13), (1, (((σ 221 (x13 + x6)) - (x7 * (σ 222 x13))) - x11)), (9, 0)]) dX12_parts_220 (Nat.le_of_ble_eq_true rfl) rfl ?_
  refine Z_lload dX12_parts_222 rfl ?_
  refine Z_ldc2 (x := 1000000000) dX12_parts_224 ctX12_77 rfl ?_
  obtain ⟨g6, h⟩ := h
  refine Z_jfd dX12_parts_227 (mlX12_85 rfl) g6 ⟨by decide, by decide⟩ (by decide) (Nat.le_refl _) (Nat.le_of_ble_eq_true rfl) (Nat.le_of_ble_eq_true rfl) (Nat.le_of_ble_eq_true rfl) ?_
  refine Z_lneg dX12_parts_230 ?_
  refine Z_lstore (L' := [(2, 211), (0, x1), (9, 0), (0, x3), (0, x4), (9, 0), (0, x6), (1, x7), (9, 0), (9, 0), (9, 0), (1, (-((((σ 221 (x13 + x6)) - (x7 * (σ 222 x13))) - x11) / 1000000000))), (9, 0), (0, x13), (1, (((σ 221 (x13 + x6)) - (x7 * (σ 222 x13))) - x11)), (9, 0)]) dX12_parts_231 (Nat.le_of_ble_eq_true rfl) rfl ?_
  refine Z_aload_n 0 dX12_parts_233 rfl rfl ?_
  refine Z_get (T := TX12) (N := 30) (ci := 12) (t := 2) 14 dX12_parts_234 la_211 (z_leN la_211 (by decide)) rfl (by decide) inX12 (by decide) (flX12_45 rfl) rfl ?_
  refine Z_top (y := 221) ((Fix.get g1 la_211 14 10 (by decide +kernel)).trans (by clear h; omega)) ?_
  refine Z_iload dX12_parts_237 rfl ?_
  refine Z_iload dX12_parts_239 rfl ?_
  refine Z_iadd dX12_parts_241 ?_
  refine Z_lload dX12_parts_242 rfl ?_
  refine Z_ldc2 (x := 1000000000) dX12_parts_244 ctX12_77 rfl ?_
  refine Z_jfm dX12_parts_247 (mlX12_79 rfl) g6 ⟨by decide, by decide⟩ (by decide) (Nat.le_refl _) (Nat.le_of_ble_eq_true rfl) (Nat.le_of_ble_eq_true rfl) (Nat.le_of_ble_eq_true rfl) ?_
  refine Z_last dX12_parts_250 la_221 (z_leN la_221 (by decide)) g2 g3 ?_
  refine Z_iinc (L' := [(2, 211), (0, x1), (9, 0), (0, x3), (0, x4), (9, 0), (0, x6), (1, x7), (9, 0), (9, 0), (9, 0), (1, (-((((σ 221 (x13 + x6)) - (x7 * (σ 222 x13))) - x11) / 1000000000))), (9, 0), (0, (x13 + 1)), (1, (((σ 221 (x13 + x6)) - (x7 * (σ 222 x13))) - x11)), (9, 0)]) dX12_parts_251 rfl (Nat.le_of_ble_eq_true rfl) rfl ?_
  refine Z_goto (tgt := 172) dX12_parts_254 (by decide) ?_
  exact Z_few (z_few_k (z_few_k (z_few_k (z_few_k (z_few_k (z_few_k (z_few_k (z_few_k (z_few_k (z_few_k (z_few_k (z_few_k (z_few_k (z_few_k (z_few_d (z_few_k z_few_0)))))))))))))))) h
theorem bk_X12_parts_266 {X : ZS} {σ : ZM} {T : ZM → Prop} {x1 : Int} {x3 : Int} {x6 : Int} (h : (r32 x6) ∧ ((16 ≤ x6) → (r32 x3) ∧ ((x3 = 0) → T σ) ∧ ((¬ x3 = 0) → ZC X (rX12_turn zN) mX12_turn [(2, 211), (0, x1)] zN σ (zQv (fun σ4 => T σ4)))) ∧ ((¬ (16 ≤ x6)) → (Fix σ) ∧ (0 ≤ x6) ∧ (x6 < 16) ∧ (0 ≤ ((16 * x1) + x6)) ∧ (((16 * x1) + x6) < 2112) ∧ Z X (rX12_parts zN) mX12_parts 266 [(2, 211), (0, x1), (9, 0), (0, x3), (9, 0), (9, 0), (0, (x6 + 1)), (9, 0), (9, 0), (9, 0), (9, 0), (9, 0), (9, 0), (9, 0), (9, 0), (9, 0)] [] zN (z_up σ 212 ((16 * x1) + x6) (σ 223 x6)) (zQv T))) : Z X (rX12_parts zN) mX12_parts 266 [(2, 211), (0, x1), (9, 0), (0, x3), (9, 0), (9, 0), (0, x6), (9, 0), (9, 0), (9, 0), (9, 0), (9, 0), (9, 0), (9, 0), (9, 0), (9, 0)] [] zN σ (zQv T) := by
  refine Z_iload dX12_parts_266 rfl ?_
  refine Z_bipush dX12_parts_268 (by decide) ?_
  obtain ⟨g1, h⟩ := h
  refine Z_icmp_ge (tgt := 298) dX12_parts_270 (by decide) g1 ⟨by decide, by decide⟩ (fun c => ?_) (fun c => ?_)
  · replace h := h.1 c
    refine Z_iload_n 3 dX12_parts_298 rfl rfl ?_
    obtain ⟨g2, h⟩ := h
    refine Z_if_eq (tgt := 307) dX12_parts_299 (by decide) g2 (fun c => ?_) (fun c => ?_)
    · replace h := h.1 c
      exact Z_return dX12_parts_307 rfl rfl ⟨rfl, h⟩
    · replace h := h.2 c
      refine Z_aload_n 0 dX12_parts_302 rfl rfl ?_
      refine Z_iload_n 1 dX12_parts_303 rfl rfl ?_
      refine Z_invV (T := TX12) (N := 30) (ci := 12) (M' := mX12_turn) (ρ' := rX12_turn zN) (st := []) [(0, x1)] dX12_parts_304 rfl rfl la_211 (z_leN la_211 (by decide)) (by decide) rfl rfl (kX12_turn.cl (Nat.le_of_ble_eq_true rfl) (Nat.le_refl _) (Nat.le_refl _) (Nat.le_of_ble_eq_true rfl) (Nat.le_of_ble_eq_true rfl) (Nat.le_of_ble_eq_true rfl)) (mlX12_99 rfl) iX12_turn sX12_turn h (z_kv (fun σ4 h => ?_))
      exact Z_return dX12_parts_307 rfl rfl ⟨rfl, h⟩
  · replace h := h.2 c
    refine Z_aload_n 0 dX12_parts_273 rfl rfl ?_
    obtain ⟨g5, h⟩ := h
    refine Z_get (T := TX12) (N := 30) (ci := 12) (t := 2) 0 dX12_parts_274 la_211 (z_leN la_211 (by decide)) rfl (by decide) inX12 (by decide) (flX12_9 rfl) rfl ?_
    refine Z_top (y := 212) ((Fix.get g5 la_211 0 1 (by decide +kernel)).trans (by clear h; omega)) ?_
    refine Z_bipush dX12_parts_277 (by decide) ?_
    refine Z_iload_n 1 dX12_parts_279 rfl rfl ?_
    refine Z_imul dX12_parts_280 ?_
    refine Z_iload dX12_parts_281 rfl ?_
    refine Z_iadd dX12_parts_283 ?_
    refine Z_aload_n 0 dX12_parts_284 rfl rfl ?_
    refine Z_get (T := TX12) (N := 30) (ci := 12) (t := 2) 16 dX12_parts_285 la_211 (z_leN la_211 (by decide)) rfl (by decide) inX12 (by decide) (flX12_51 rfl) rfl ?_
    refine Z_top (y := 223) ((Fix.get g5 la_211 16 12 (by decide +kernel)).trans (by clear h; omega)) ?_
    refine Z_iload dX12_parts_288 rfl ?_
    obtain ⟨g6, h⟩ := h
    obtain ⟨g7, h⟩ := h
    refine Z_lald dX12_parts_290 la_223 (z_leN la_223 (by decide)) g6 g7 ?_
    obtain ⟨g8, h⟩ := h
    obtain ⟨g9, h⟩ := h
    refine Z_last dX12_parts_291 la_212 (z_leN la_212 (by decide)) g8 g9 ?_
    refine Z_iinc (L' := [(2, 211), (0, x1), (9, 0), (0, x3), (9, 0), (9, 0), (0, (x6 + 1)), (9, 0), (9, 0), (9, 0), (9, 0), (9, 0), (9, 0), (9, 0), (9, 0), (9, 0)]) dX12_parts_292 rfl (Nat.le_of_ble_eq_true rfl) rfl ?_
    refine Z_goto (tgt := 266) dX12_parts_295 (by decide) ?_
    exact Z_few (z_few_k (z_few_k (z_few_k (z_few_k (z_few_k (z_few_k (z_few_k (z_few_k (z_few_k (z_few_k (z_few_k (z_few_k (z_few_k (z_few_k (z_few_k (z_few_k z_few_0)))))))))))))))) h
theorem bk_X12_goesInto {X : ZS} {σ : ZM} {T : Bool → ZM → Prop} {x1 : Int} {x3 : Int} {x4 : Int} (h : Z X (rX12_goesInto zN) mX12_goesInto 6 [(2, 211), (1, x1), (9, 0), (0, x3), (0, x4), (1, 0), (9, 0), (0, 0), (9, 0), (9, 0)] [] zN σ (zQz T)) : ZC X (rX12_goesInto zN) mX12_goesInto [(2, 211), (1, x1), (0, x3), (0, x4)] zN σ (zQz T) := by
  show Z X _ _ 0 [(2, 211), (1, x1), (9, 0), (0, x3), (0, x4), (9, 0), (9, 0), (9, 0), (9, 0), (9, 0)] [] _ σ _
  refine Z_lconst (x := 0) dX12_goesInto_0 rfl ?_
  refine Z_lstore (L' := [(2, 211), (1, x1), (9, 0), (0, x3), (0, x4), (1, 0), (9, 0), (9, 0), (9, 0), (9, 0)]) dX12_goesInto_1 (Nat.le_of_ble_eq_true rfl) rfl ?_
  refine Z_iconst dX12_goesInto_3 ?_
  refine Z_istore (L' := [(2, 211), (1, x1), (9, 0), (0, x3), (0, x4), (1, 0), (9, 0), (0, 0), (9, 0), (9, 0)]) dX12_goesInto_4 (Nat.le_of_ble_eq_true rfl) rfl ?_
  exact Z_few (z_few_k (z_few_k (z_few_k (z_few_k (z_few_k (z_few_k (z_few_k (z_few_k (z_few_k (z_few_k z_few_0)))))))))) h
theorem bk_X12_goesInto_6 {X : ZS} {σ : ZM} {T : Bool → ZM → Prop} {x1 : Int} {x3 : Int} {x4 : Int} {x5 : Int} {x7 : Int} (h : (r32 (x7 + x3)) ∧ ((16 ≤ (x7 + x3)) → (r64 x5) ∧ ((¬ x5 = 0) → T false σ) ∧ ((x5 = 0) → T true σ)) ∧ ((¬ (16 ≤ (x7 + x3))) → (r32 x7) ∧ (r32 x4) ∧ ((x7 < x4) → (Fix σ) ∧ (0 ≤ (x7 + x3)) ∧ ((x7 + x3) < 16) ∧ (0 ≤ x7) ∧ (x7 < 16) ∧ (r64 (((σ 221 (x7 + x3)) - (x1 * (σ 222 x7))) - x5)) ∧ Z X (rX12_goesInto zN) mX12_goesInto 6 [(2, 211), (1, x1), (9, 0), (0, x3), (0, x4), (1, (-((((σ 221 (x7 + x3)) - (x1 * (σ 222 x7))) - x5) / 1000000000))), (9, 0), (0, (x7 + 1)), (9, 0), (9, 0)] [] zN σ (zQz T)) ∧ ((¬ (x7 < x4)) → (r64 x5) ∧ ((x5 = 0) → ((¬ x5 = 0) → T false σ) ∧ ((x5 = 0) → T true σ)) ∧ ((¬ x5 = 0) → (Fix σ) ∧ (0 ≤ (x7 + x3)) ∧ ((x7 + x3) < 16) ∧ (0 ≤ x7) ∧ (x7 < 16) ∧ (r64 (((σ 221 (x7 + x3)) - (x1 * (σ 222 x7))) - x5)) ∧ Z X (rX12_goesInto zN) mX12_goesInto 6 [(2, 211), (1, x1), (9, 0), (0, x3), (0, x4), (1, (-((((σ 221 (x7 + x3)) - (x1 * (σ 222 x7))) - x5) / 1000000000))), (9, 0), (0, (x7 + 1)), (9, 0), (9, 0)] [] zN σ (zQz T))))) : Z X (rX12_goesInto zN) mX12_goesInto 6 [(2, 211), (1, x1), (9, 0), (0, x3), (0, x4), (1, x5), (9, 0), (0, x7), (9, 0), (9, 0)] [] zN σ (zQz T) := by
  refine Z_iload dX12_goesInto_6 rfl ?_
  refine Z_iload_n 3 dX12_goesInto_8 rfl rfl ?_
  refine Z_iadd dX12_goesInto_9 ?_
  refine Z_bipush dX12_goesInto_10 (by decide) ?_
  obtain ⟨g1, h⟩ := h
  refine Z_icmp_ge (tgt := 70) dX12_goesInto_12 (by decide) g1 ⟨by decide, by decide⟩ (fun c => ?_) (fun c => ?_)
  · replace h := h.1 c
    refine Z_lload dX12_goesInto_70 rfl ?_
    refine Z_lconst (x := 0) dX12_goesInto_72 rfl ?_
    obtain ⟨g2, h⟩ := h
    refine Z_lc_ne (tgt := 81) dX12_goesInto_73 dX12_goesInto_74 (by decide) g2 ⟨by decide, by decide⟩ (fun c => ?_) (fun c => ?_)
    · replace h := h.1 c
      refine Z_iconst dX12_goesInto_81 ?_
      exact Z_zreturn dX12_goesInto_82 rfl (Or.inl rfl) rfl ⟨rfl, false, rfl, h⟩
    · replace h := h.2 c
      refine Z_iconst dX12_goesInto_77 ?_
      refine Z_goto (tgt := 82) dX12_goesInto_78 (by decide) ?_
      exact Z_zreturn dX12_goesInto_82 rfl (Or.inr rfl) rfl ⟨rfl, true, rfl, h⟩
  · replace h := h.2 c
    refine Z_iload dX12_goesInto_15 rfl ?_
    refine Z_iload dX12_goesInto_17 rfl ?_
    obtain ⟨g3, h⟩ := h
    obtain ⟨g4, h⟩ := h
    refine Z_icmp_lt (tgt := 29) dX12_goesInto_19 (by decide) g3 g4 (fun c => ?_) (fun c => ?_)
    · replace h := h.1 c
      refine Z_aload_n 0 dX12_goesInto_29 rfl rfl ?_
      obtain ⟨g5, h⟩ := h
      refine Z_get (T := TX12) (N := 30) (ci := 12) (t := 2) 14 dX12_goesInto_30 la_211 (z_leN la_211 (by decide)) rfl (by decide) inX12 (by decide) (flX12_45 rfl) rfl ?_
      refine Z_top (y := 221) ((Fix.get g5 la_211 14 10 (by decide +kernel)).trans (by clear h; omega)) ?_
      refine Z_iload dX12_goesInto_33 rfl ?_
      refine Z_iload_n 3 dX12_goesInto_35 rfl rfl ?_
      refine Z_iadd dX12_goesInto_36 ?_
      obtain ⟨g6, h⟩ := h
      obtain ⟨g7, h⟩ := h
      refine Z_lald dX12_goesInto_37 la_221 (z_leN la_221 (by decide)) g6 g7 ?_
      refine Z_lload_n 1 dX12_goesInto_38 rfl rfl ?_
      refine Z_aload_n 0 dX12_goesInto_39 rfl rfl ?_
      refine Z_get (T := TX12) (N := 30) (ci := 12) (t := 2) 15 dX12_goesInto_40 la_211 (z_leN la_211 (by decide)) rfl (by decide) inX12 (by decide) (flX12_48 rfl) rfl ?_
      refine Z_top (y := 222) ((Fix.get g5 la_211 15 11 (by decide +kernel)).trans (by clear h; omega)) ?_
      refine Z_iload dX12_goesInto_43 rfl ?_
      obtain ⟨g8, h⟩ := h
      obtain ⟨g9, h⟩ := h
      refine Z_lald dX12_goesInto_45 la_222 (z_leN la_222 (by decide)) g8 g9 ?_
      refine Z_lmul dX12_goesInto_46 ?_
      refine Z_lsub dX12_goesInto_47 ?_
      refine Z_lload dX12_goesInto_48 rfl ?_
      refine Z_lsub dX12_goesInto_50 ?_
      refine Z_lstore (L' := [(2, 211), (1, x1), (9, 0), (0, x3), (0, x4), (1, x5), (9, 0), (0, x7), (1, (((σ 221 (x7 + x3)) - (x1 * (σ 222 x7))) - x5)), (9, 0)]) dX12_goesInto_51 (Nat.le_of_ble_eq_true rfl) rfl ?_
      refine Z_lload dX12_goesInto_53 rfl ?_
      refine Z_ldc2 (x := 1000000000) dX12_goesInto_55 ctX12_77 rfl ?_
      obtain ⟨g10, h⟩ := h
      refine Z_jfd dX12_goesInto_58 (mlX12_85 rfl) g10 ⟨by decide, by decide⟩ (by decide) (Nat.le_refl _) (Nat.le_of_ble_eq_true rfl) (Nat.le_of_ble_eq_true rfl) (Nat.le_of_ble_eq_true rfl) ?_
      refine Z_lneg dX12_goesInto_61 ?_
      refine Z_lstore (L' := [(2, 211), (1, x1), (9, 0), (0, x3), (0, x4), (1, (-((((σ 221 (x7 + x3)) - (x1 * (σ 222 x7))) - x5) / 1000000000))), (9, 0), (0, x7), (1, (((σ 221 (x7 + x3)) - (x1 * (σ 222 x7))) - x5)), (9, 0)]) dX12_goesInto_62 (Nat.le_of_ble_eq_true rfl) rfl ?_
      refine Z_iinc (L' := [(2, 211), (1, x1), (9, 0), (0, x3), (0, x4), (1, (-((((σ 221 (x7 + x3)) - (x1 * (σ 222 x7))) - x5) / 1000000000))), (9, 0), (0, (x7 + 1)), (1, (((σ 221 (x7 + x3)) - (x1 * (σ 222 x7))) - x5)), (9, 0)]) dX12_goesInto_64 rfl (Nat.le_of_ble_eq_true rfl) rfl ?_
      refine Z_goto (tgt := 6) dX12_goesInto_67 (by decide) ?_
      exact Z_few (z_few_k (z_few_k (z_few_k (z_few_k (z_few_k (z_few_k (z_few_k (z_few_k (z_few_d (z_few_k z_few_0)))))))))) h
    · replace h := h.2 c
      refine Z_lload dX12_goesInto_22 rfl ?_
      refine Z_lconst (x := 0) dX12_goesInto_24 rfl ?_
      obtain ⟨g11, h⟩ := h
      refine Z_lc_eq (tgt := 70) dX12_goesInto_25 dX12_goesInto_26 (by decide) g11 ⟨by decide, by decide⟩ (fun c => ?_) (fun c => ?_)
      · replace h := h.1 c
        refine Z_lload dX12_goesInto_70 rfl ?_
        refine Z_lconst (x := 0) dX12_goesInto_72 rfl ?_
        refine Z_lc_ne (tgt := 81) dX12_goesInto_73 dX12_goesInto_74 (by decide) g11 ⟨by decide, by decide⟩ (fun c => ?_) (fun c => ?_)
        · replace h := h.1 c
          refine Z_iconst dX12_goesInto_81 ?_
          exact Z_zreturn dX12_goesInto_82 rfl (Or.inl rfl) rfl ⟨rfl, false, rfl, h⟩
        · replace h := h.2 c
          refine Z_iconst dX12_goesInto_77 ?_
          refine Z_goto (tgt := 82) dX12_goesInto_78 (by decide) ?_
          exact Z_zreturn dX12_goesInto_82 rfl (Or.inr rfl) rfl ⟨rfl, true, rfl, h⟩
      · replace h := h.2 c
        refine Z_aload_n 0 dX12_goesInto_29 rfl rfl ?_
        obtain ⟨g12, h⟩ := h
        refine Z_get (T := TX12) (N := 30) (ci := 12) (t := 2) 14 dX12_goesInto_30 la_211 (z_leN la_211 (by decide)) rfl (by decide) inX12 (by decide) (flX12_45 rfl) rfl ?_
        refine Z_top (y := 221) ((Fix.get g12 la_211 14 10 (by decide +kernel)).trans (by clear h; omega)) ?_
        refine Z_iload dX12_goesInto_33 rfl ?_
        refine Z_iload_n 3 dX12_goesInto_35 rfl rfl ?_
        refine Z_iadd dX12_goesInto_36 ?_
        obtain ⟨g13, h⟩ := h
        obtain ⟨g14, h⟩ := h
        refine Z_lald dX12_goesInto_37 la_221 (z_leN la_221 (by decide)) g13 g14 ?_
        refine Z_lload_n 1 dX12_goesInto_38 rfl rfl ?_
        refine Z_aload_n 0 dX12_goesInto_39 rfl rfl ?_
        refine Z_get (T := TX12) (N := 30) (ci := 12) (t := 2) 15 dX12_goesInto_40 la_211 (z_leN la_211 (by decide)) rfl (by decide) inX12 (by decide) (flX12_48 rfl) rfl ?_
        refine Z_top (y := 222) ((Fix.get g12 la_211 15 11 (by decide +kernel)).trans (by clear h; omega)) ?_
        refine Z_iload dX12_goesInto_43 rfl ?_
        obtain ⟨g15, h⟩ := h
        obtain ⟨g16, h⟩ := h
        refine Z_lald dX12_goesInto_45 la_222 (z_leN la_222 (by decide)) g15 g16 ?_
        refine Z_lmul dX12_goesInto_46 ?_
        refine Z_lsub dX12_goesInto_47 ?_
        refine Z_lload dX12_goesInto_48 rfl ?_
        refine Z_lsub dX12_goesInto_50 ?_
        refine Z_lstore (L' := [(2, 211), (1, x1), (9, 0), (0, x3), (0, x4), (1, x5), (9, 0), (0, x7), (1, (((σ 221 (x7 + x3)) - (x1 * (σ 222 x7))) - x5)), (9, 0)]) dX12_goesInto_51 (Nat.le_of_ble_eq_true rfl) rfl ?_
        refine Z_lload dX12_goesInto_53 rfl ?_
        refine Z_ldc2 (x := 1000000000) dX12_goesInto_55 ctX12_77 rfl ?_
        obtain ⟨g17, h⟩ := h
        refine Z_jfd dX12_goesInto_58 (mlX12_85 rfl) g17 ⟨by decide, by decide⟩ (by decide) (Nat.le_refl _) (Nat.le_of_ble_eq_true rfl) (Nat.le_of_ble_eq_true rfl) (Nat.le_of_ble_eq_true rfl) ?_
        refine Z_lneg dX12_goesInto_61 ?_
        refine Z_lstore (L' := [(2, 211), (1, x1), (9, 0), (0, x3), (0, x4), (1, (-((((σ 221 (x7 + x3)) - (x1 * (σ 222 x7))) - x5) / 1000000000))), (9, 0), (0, x7), (1, (((σ 221 (x7 + x3)) - (x1 * (σ 222 x7))) - x5)), (9, 0)]) dX12_goesInto_62 (Nat.le_of_ble_eq_true rfl) rfl ?_
        refine Z_iinc (L' := [(2, 211), (1, x1), (9, 0), (0, x3), (0, x4), (1, (-((((σ 221 (x7 + x3)) - (x1 * (σ 222 x7))) - x5) / 1000000000))), (9, 0), (0, (x7 + 1)), (1, (((σ 221 (x7 + x3)) - (x1 * (σ 222 x7))) - x5)), (9, 0)]) dX12_goesInto_64 rfl (Nat.le_of_ble_eq_true rfl) rfl ?_
        refine Z_goto (tgt := 6) dX12_goesInto_67 (by decide) ?_
        exact Z_few (z_few_k (z_few_k (z_few_k (z_few_k (z_few_k (z_few_k (z_few_k (z_few_k (z_few_d (z_few_k z_few_0)))))))))) h
theorem bk_X12_isEven {X : ZS} {σ : ZM} {T : Bool → ZM → Prop} {x1 : Int} (h : (Fix σ) ∧ (0 ≤ (16 * x1)) ∧ ((16 * x1) < 2112) ∧ (r64 (σ 212 (16 * x1))) ∧ (r64 (Int.tmod (σ 212 (16 * x1)) 2)) ∧ ((¬ (Int.tmod (σ 212 (16 * x1)) 2) = 0) → T false σ) ∧ (((Int.tmod (σ 212 (16 * x1)) 2) = 0) → T true σ)) : ZC X (rX12_isEven zN) mX12_isEven [(2, 211), (0, x1)] zN σ (zQz T) := by
  show Z X _ _ 0 [(2, 211), (0, x1)] [] _ σ _
  refine Z_aload_n 0 dX12_isEven_0 rfl rfl ?_
  obtain ⟨g1, h⟩ := h
  refine Z_get (T := TX12) (N := 30) (ci := 12) (t := 2) 0 dX12_isEven_1 la_211 (z_leN la_211 (by decide)) rfl (by decide) inX12 (by decide) (flX12_9 rfl) rfl ?_
  refine Z_top (y := 212) ((Fix.get g1 la_211 0 1 (by decide +kernel)).trans (by clear h; omega)) ?_
  refine Z_bipush dX12_isEven_4 (by decide) ?_
  refine Z_iload_n 1 dX12_isEven_6 rfl rfl ?_
  refine Z_imul dX12_isEven_7 ?_
  obtain ⟨g2, h⟩ := h
  obtain ⟨g3, h⟩ := h
  refine Z_lald dX12_isEven_8 la_212 (z_leN la_212 (by decide)) g2 g3 ?_
  refine Z_ldc2 (x := 2) dX12_isEven_9 ctX12_112 rfl ?_
  obtain ⟨g4, h⟩ := h
  refine Z_lrem dX12_isEven_12 g4 ⟨by decide, by decide⟩ (by decide) ?_
  refine Z_lconst (x := 0) dX12_isEven_13 rfl ?_
  obtain ⟨g5, h⟩ := h
  refine Z_lc_ne (tgt := 22) dX12_isEven_14 dX12_isEven_15 (by decide) g5 ⟨by decide, by decide⟩ (fun c => ?_) (fun c => ?_)
  · replace h := h.1 c
    refine Z_iconst dX12_isEven_22 ?_
    exact Z_zreturn dX12_isEven_23 rfl (Or.inl rfl) rfl ⟨rfl, false, rfl, h⟩
  · replace h := h.2 c
    refine Z_iconst dX12_isEven_18 ?_
    refine Z_goto (tgt := 23) dX12_isEven_19 (by decide) ?_
    exact Z_zreturn dX12_isEven_23 rfl (Or.inr rfl) rfl ⟨rfl, true, rfl, h⟩
theorem bk_X12_half {X : ZS} {σ : ZM} {T : ZM → Prop} {x1 : Int} (h : Z X (rX12_half zN) mX12_half 6 [(2, 211), (0, x1), (1, 0), (9, 0), (0, 15), (9, 0), (9, 0)] [] zN σ (zQv T)) : ZC X (rX12_half zN) mX12_half [(2, 211), (0, x1)] zN σ (zQv T) := by
  show Z X _ _ 0 [(2, 211), (0, x1), (9, 0), (9, 0), (9, 0), (9, 0), (9, 0)] [] _ σ _
  refine Z_lconst (x := 0) dX12_half_0 rfl ?_
  refine Z_lstore_n (L' := [(2, 211), (0, x1), (1, 0), (9, 0), (9, 0), (9, 0), (9, 0)]) 2 dX12_half_1 rfl (Nat.le_of_ble_eq_true rfl) rfl ?_
  refine Z_bipush dX12_half_2 (by decide) ?_
  refine Z_istore (L' := [(2, 211), (0, x1), (1, 0), (9, 0), (0, 15), (9, 0), (9, 0)]) dX12_half_4 (Nat.le_of_ble_eq_true rfl) rfl ?_
  exact Z_few (z_few_k (z_few_k (z_few_k (z_few_k (z_few_k (z_few_k (z_few_k z_few_0))))))) h
theorem bk_X12_half_6 {X : ZS} {σ : ZM} {T : ZM → Prop} {x1 : Int} {x2 : Int} {x4 : Int} (h : (r32 x4) ∧ ((x4 < 0) → T σ) ∧ ((¬ (x4 < 0)) → (Fix σ) ∧ (0 ≤ ((16 * x1) + x4)) ∧ (((16 * x1) + x4) < 2112) ∧ (r64 ((x2 * 1000000000) + (σ 212 ((16 * x1) + x4)))) ∧ Z X (rX12_half zN) mX12_half 6 [(2, 211), (0, x1), (1, (Int.tmod ((x2 * 1000000000) + (σ 212 ((16 * x1) + x4))) 2)), (9, 0), (0, (x4 + (-1))), (9, 0), (9, 0)] [] zN (z_up σ 212 ((16 * x1) + x4) (Int.tdiv ((x2 * 1000000000) + (σ 212 ((16 * x1) + x4))) 2)) (zQv T))) : Z X (rX12_half zN) mX12_half 6 [(2, 211), (0, x1), (1, x2), (9, 0), (0, x4), (9, 0), (9, 0)] [] zN σ (zQv T) := by
  refine Z_iload dX12_half_6 rfl ?_
  obtain ⟨g1, h⟩ := h
  refine Z_if_lt (tgt := 62) dX12_half_8 (by decide) g1 (fun c => ?_) (fun c => ?_)
  · replace h := h.1 c
    exact Z_return dX12_half_62 rfl rfl ⟨rfl, h⟩
  · replace h := h.2 c
    refine Z_lload_n 2 dX12_half_11 rfl rfl ?_
    refine Z_ldc2 (x := 1000000000) dX12_half_12 ctX12_77 rfl ?_
    refine Z_lmul dX12_half_15 ?_
    refine Z_aload_n 0 dX12_half_16 rfl rfl ?_
    obtain ⟨g2, h⟩ := h
    refine Z_get (T := TX12) (N := 30) (ci := 12) (t := 2) 0 dX12_half_17 la_211 (z_leN la_211 (by decide)) rfl (by decide) inX12 (by decide) (flX12_9 rfl) rfl ?_
    refine Z_top (y := 212) ((Fix.get g2 la_211 0 1 (by decide +kernel)).trans (by clear h; omega)) ?_
    refine Z_bipush dX12_half_20 (by decide) ?_
    refine Z_iload_n 1 dX12_half_22 rfl rfl ?_
    refine Z_imul dX12_half_23 ?_
    refine Z_iload dX12_half_24 rfl ?_
    refine Z_iadd dX12_half_26 ?_
    obtain ⟨g3, h⟩ := h
    obtain ⟨g4, h⟩ := h
    refine Z_lald dX12_half_27 la_212 (z_leN la_212 (by decide)) g3 g4 ?_
    refine Z_ladd dX12_half_28 ?_
    refine Z_lstore (L' := [(2, 211), (0, x1), (1, x2), (9, 0), (0, x4), (1, ((x2 * 1000000000) + (σ 212 ((16 * x1) + x4)))), (9, 0)]) dX12_half_29 (Nat.le_of_ble_eq_true rfl) rfl ?_
    refine Z_aload_n 0 dX12_half_31 rfl rfl ?_
    refine Z_get (T := TX12) (N := 30) (ci := 12) (t := 2) 0 dX12_half_32 la_211 (z_leN la_211 (by decide)) rfl (by decide) inX12 (by decide) (flX12_9 rfl) rfl ?_
    refine Z_top (y := 212) ((Fix.get g2 la_211 0 1 (by decide +kernel)).trans (by clear h; omega)) ?_
    refine Z_bipush dX12_half_35 (by decide) ?_
    refine Z_iload_n 1 dX12_half_37 rfl rfl ?_
    refine Z_imul dX12_half_38 ?_
    refine Z_iload dX12_half_39 rfl ?_
    refine Z_iadd dX12_half_41 ?_
    refine Z_lload dX12_half_42 rfl ?_
    refine Z_ldc2 (x := 2) dX12_half_44 ctX12_112 rfl ?_
    obtain ⟨g5, h⟩ := h
    refine Z_ldiv dX12_half_47 g5 ⟨by decide, by decide⟩ (by decide) ?_
    refine Z_last dX12_half_48 la_212 (z_leN la_212 (by decide)) g3 g4 ?_
    refine Z_lload dX12_half_49 rfl ?_
    refine Z_ldc2 (x := 2) dX12_half_51 ctX12_112 rfl ?_
    refine Z_lrem dX12_half_54 g5 ⟨by decide, by decide⟩ (by decide) ?_
    refine Z_lstore_n (L' := [(2, 211), (0, x1), (1, (Int.tmod ((x2 * 1000000000) + (σ 212 ((16 * x1) + x4))) 2)), (9, 0), (0, x4), (1, ((x2 * 1000000000) + (σ 212 ((16 * x1) + x4)))), (9, 0)]) 2 dX12_half_55 rfl (Nat.le_of_ble_eq_true rfl) rfl ?_
    refine Z_iinc (L' := [(2, 211), (0, x1), (1, (Int.tmod ((x2 * 1000000000) + (σ 212 ((16 * x1) + x4))) 2)), (9, 0), (0, (x4 + (-1))), (1, ((x2 * 1000000000) + (σ 212 ((16 * x1) + x4)))), (9, 0)]) dX12_half_56 rfl (Nat.le_of_ble_eq_true rfl) rfl ?_
    refine Z_goto (tgt := 6) dX12_half_59 (by decide) ?_
    exact Z_few (z_few_k (z_few_k (z_few_k (z_few_k (z_few_k (z_few_d (z_few_k z_few_0))))))) h
theorem bk_X12_isLess {X : ZS} {σ : ZM} {T : Bool → ZM → Prop} {x1 : Int} {x2 : Int} (h : Z X (rX12_isLess zN) mX12_isLess 3 [(2, 211), (0, x1), (0, x2), (0, 15), (9, 0), (9, 0), (9, 0), (9, 0)] [] zN σ (zQz T)) : ZC X (rX12_isLess zN) mX12_isLess [(2, 211), (0, x1), (0, x2)] zN σ (zQz T) := by
  show Z X _ _ 0 [(2, 211), (0, x1), (0, x2), (9, 0), (9, 0), (9, 0), (9, 0), (9, 0)] [] _ σ _
  refine Z_bipush dX12_isLess_0 (by decide) ?_
  refine Z_istore_n (L' := [(2, 211), (0, x1), (0, x2), (0, 15), (9, 0), (9, 0), (9, 0), (9, 0)]) 3 dX12_isLess_2 rfl (Nat.le_of_ble_eq_true rfl) rfl ?_
  exact Z_few (z_few_k (z_few_k (z_few_k (z_few_k (z_few_k (z_few_k (z_few_k (z_few_k z_few_0)))))))) h
theorem bk_X12_isLess_3 {X : ZS} {σ : ZM} {T : Bool → ZM → Prop} {x1 : Int} {x2 : Int} {x3 : Int} (h : (r32 x3) ∧ ((x3 < 0) → T false σ) ∧ ((¬ (x3 < 0)) → (Fix σ) ∧ (0 ≤ ((16 * x1) + x3)) ∧ (((16 * x1) + x3) < 2112) ∧ (0 ≤ ((16 * x2) + x3)) ∧ (((16 * x2) + x3) < 2112) ∧ (r64 (σ 212 ((16 * x1) + x3))) ∧ (r64 (σ 212 ((16 * x2) + x3))) ∧ (((σ 212 ((16 * x1) + x3)) = (σ 212 ((16 * x2) + x3))) → Z X (rX12_isLess zN) mX12_isLess 3 [(2, 211), (0, x1), (0, x2), (0, (x3 + (-1))), (9, 0), (9, 0), (9, 0), (9, 0)] [] zN σ (zQz T)) ∧ ((¬ (σ 212 ((16 * x1) + x3)) = (σ 212 ((16 * x2) + x3))) → (((σ 212 ((16 * x2) + x3)) ≤ (σ 212 ((16 * x1) + x3))) → T false σ) ∧ ((¬ ((σ 212 ((16 * x2) + x3)) ≤ (σ 212 ((16 * x1) + x3)))) → T true σ)))) : Z X (rX12_isLess zN) mX12_isLess 3 [(2, 211), (0, x1), (0, x2), (0, x3), (9, 0), (9, 0), (9, 0), (9, 0)] [] zN σ (zQz T) := by
  refine Z_iload_n 3 dX12_isLess_3 rfl rfl ?_
  obtain ⟨g1, h⟩ := h
  refine Z_if_lt (tgt := 61) dX12_isLess_4 (by decide) g1 (fun c => ?_) (fun c => ?_)
  · replace h := h.1 c
    refine Z_iconst dX12_isLess_61 ?_
    exact Z_zreturn dX12_isLess_62 rfl (Or.inl rfl) rfl ⟨rfl, false, rfl, h⟩
  · replace h := h.2 c
    refine Z_aload_n 0 dX12_isLess_7 rfl rfl ?_
    obtain ⟨g2, h⟩ := h
    refine Z_get (T := TX12) (N := 30) (ci := 12) (t := 2) 0 dX12_isLess_8 la_211 (z_leN la_211 (by decide)) rfl (by decide) inX12 (by decide) (flX12_9 rfl) rfl ?_
    refine Z_top (y := 212) ((Fix.get g2 la_211 0 1 (by decide +kernel)).trans (by clear h; omega)) ?_
    refine Z_bipush dX12_isLess_11 (by decide) ?_
    refine Z_iload_n 1 dX12_isLess_13 rfl rfl ?_
    refine Z_imul dX12_isLess_14 ?_
    refine Z_iload_n 3 dX12_isLess_15 rfl rfl ?_
    refine Z_iadd dX12_isLess_16 ?_
    obtain ⟨g3, h⟩ := h
    obtain ⟨g4, h⟩ := h
    refine Z_lald dX12_isLess_17 la_212 (z_leN la_212 (by decide)) g3 g4 ?_
    refine Z_lstore (L' := [(2, 211), (0, x1), (0, x2), (0, x3), (1, (σ 212 ((16 * x1) + x3))), (9, 0), (9, 0), (9, 0)]) dX12_isLess_18 (Nat.le_of_ble_eq_true rfl) rfl ?_
    refine Z_aload_n 0 dX12_isLess_20 rfl rfl ?_
    refine Z_get (T := TX12) (N := 30) (ci := 12) (t := 2) 0 dX12_isLess_21 la_211 (z_leN la_211 (by decide)) rfl (by decide) inX12 (by decide) (flX12_9 rfl) rfl ?_
    refine Z_top (y := 212) ((Fix.get g2 la_211 0 1 (by decide +kernel)).trans (by clear h; omega)) ?_
    refine Z_bipush dX12_isLess_24 (by decide) ?_
    refine Z_iload_n 2 dX12_isLess_26 rfl rfl ?_
    refine Z_imul dX12_isLess_27 ?_
    refine Z_iload_n 3 dX12_isLess_28 rfl rfl ?_
    refine Z_iadd dX12_isLess_29 ?_
    obtain ⟨g5, h⟩ := h
    obtain ⟨g6, h⟩ := h
    refine Z_lald dX12_isLess_30 la_212 (z_leN la_212 (by decide)) g5 g6 ?_
    refine Z_lstore (L' := [(2, 211), (0, x1), (0, x2), (0, x3), (1, (σ 212 ((16 * x1) + x3))), (9, 0), (1, (σ 212 ((16 * x2) + x3))), (9, 0)]) dX12_isLess_31 (Nat.le_of_ble_eq_true rfl) rfl ?_
    refine Z_lload dX12_isLess_33 rfl ?_
    refine Z_lload dX12_isLess_35 rfl ?_
    obtain ⟨g7, h⟩ := h
    obtain ⟨g8, h⟩ := h
    refine Z_lc_eq (tgt := 55) dX12_isLess_37 dX12_isLess_38 (by decide) g7 g8 (fun c => ?_) (fun c => ?_)
    · replace h := h.1 c
      refine Z_iinc (L' := [(2, 211), (0, x1), (0, x2), (0, (x3 + (-1))), (1, (σ 212 ((16 * x1) + x3))), (9, 0), (1, (σ 212 ((16 * x2) + x3))), (9, 0)]) dX12_isLess_55 rfl (Nat.le_of_ble_eq_true rfl) rfl ?_
      refine Z_goto (tgt := 3) dX12_isLess_58 (by decide) ?_
      exact Z_few (z_few_k (z_few_k (z_few_k (z_few_k (z_few_d (z_few_k (z_few_d (z_few_k z_few_0)))))))) h
    · replace h := h.2 c
      refine Z_lload dX12_isLess_41 rfl ?_
      refine Z_lload dX12_isLess_43 rfl ?_
      refine Z_lc_ge (tgt := 53) dX12_isLess_45 dX12_isLess_46 (by decide) g7 g8 (fun c => ?_) (fun c => ?_)
      · replace h := h.1 c
        refine Z_iconst dX12_isLess_53 ?_
        exact Z_zreturn dX12_isLess_54 rfl (Or.inl rfl) rfl ⟨rfl, false, rfl, h⟩
      · replace h := h.2 c
        refine Z_iconst dX12_isLess_49 ?_
        refine Z_goto (tgt := 54) dX12_isLess_50 (by decide) ?_
        exact Z_zreturn dX12_isLess_54 rfl (Or.inr rfl) rfl ⟨rfl, true, rfl, h⟩
theorem bk_X12_result {X : ZS} {σ : ZM} {T : ZM → Prop} {x1 : Int} {x2 : Int} (h : ZC X (rX12_isBelow zN) mX12_isBelow [(2, 211), (0, x1)] zN σ (zQz (fun r1 σ2 => ZC X (rX12_isBelow zN) mX12_isBelow [(2, 211), (0, x2)] zN σ2 (zQz (fun r3 σ4 => (((zb r1) = (zb r3)) → Z X (rX12_result zN) mX12_result 18 [(2, 211), (0, x1), (0, x2), (9, 0), (9, 0), (9, 0)] [(0, 0)] zN σ4 (zQv T)) ∧ ((¬ (zb r1) = (zb r3)) → Z X (rX12_result zN) mX12_result 18 [(2, 211), (0, x1), (0, x2), (9, 0), (9, 0), (9, 0)] [(0, 1)] zN σ4 (zQv T))))))) : ZC X (rX12_result zN) mX12_result [(2, 211), (0, x1), (0, x2)] zN σ (zQv T) := by
  show Z X _ _ 0 [(2, 211), (0, x1), (0, x2), (9, 0), (9, 0), (9, 0)] [] _ σ _
  refine Z_aload_n 0 dX12_result_0 rfl rfl ?_
  refine Z_iload_n 1 dX12_result_1 rfl rfl ?_
  refine Z_invV (T := TX12) (N := 30) (ci := 12) (M' := mX12_isBelow) (ρ' := rX12_isBelow zN) (st := []) [(0, x1)] dX12_result_2 rfl rfl la_211 (z_leN la_211 (by decide)) (by decide) rfl rfl (kX12_isBelow.cl (Nat.le_of_ble_eq_true rfl) (Nat.le_refl _) (Nat.le_refl _) (Nat.le_of_ble_eq_true rfl) (Nat.le_of_ble_eq_true rfl) (Nat.le_of_ble_eq_true rfl)) (mlX12_96 rfl) iX12_isBelow sX12_isBelow h (z_kz (fun r1 σ2 h => ?_))
  refine Z_aload_n 0 dX12_result_5 rfl rfl ?_
  refine Z_iload_n 2 dX12_result_6 rfl rfl ?_
  refine Z_invV (T := TX12) (N := 30) (ci := 12) (M' := mX12_isBelow) (ρ' := rX12_isBelow zN) (st := [(0, (zb r1))]) [(0, x2)] dX12_result_7 rfl rfl la_211 (z_leN la_211 (by decide)) (by decide) rfl rfl (kX12_isBelow.cl (Nat.le_of_ble_eq_true rfl) (Nat.le_refl _) (Nat.le_refl _) (Nat.le_of_ble_eq_true rfl) (Nat.le_of_ble_eq_true rfl) (Nat.le_of_ble_eq_true rfl)) (mlX12_96 rfl) iX12_isBelow sX12_isBelow h (z_kz (fun r3 σ4 h => ?_))
  refine Z_icmp_eq (tgt := 17) dX12_result_10 (by decide) (zb_r _) (zb_r _) (fun c => ?_) (fun c => ?_)
  · replace h := h.1 c
    refine Z_iconst dX12_result_17 ?_
    exact Z_few (z_few_k (z_few_k (z_few_k (z_few_k (z_few_k (z_few_k z_few_0)))))) h
  · replace h := h.2 c
    refine Z_iconst dX12_result_13 ?_
    refine Z_goto (tgt := 18) dX12_result_14 (by decide) ?_
    exact Z_few (z_few_k (z_few_k (z_few_k (z_few_k (z_few_k (z_few_k z_few_0)))))) h
theorem bk_X12_result_18 {X : ZS} {σ : ZM} {T : ZM → Prop} {x1 : Int} {x2 : Int} {y0 : Int} (h : ZC X (rX12_copy zN) mX12_copy [(2, 211), (0, 0), (0, x1)] zN σ (zQv (fun σ2 => ZC X (rX12_copy zN) mX12_copy [(2, 211), (0, 1), (0, x2)] zN σ2 (zQv (fun σ4 => ZC X (rX12_isBelow zN) mX12_isBelow [(2, 211), (0, 0)] zN σ4 (zQz (fun r5 σ6 => ((r5 = false) → ZC X (rX12_isBelow zN) mX12_isBelow [(2, 211), (0, 1)] zN σ6 (zQz (fun r7 σ8 => ((r7 = false) → ZC X (rX12_isZero zN) mX12_isZero [(2, 211), (0, 0)] zN σ8 (zQz (fun r9 σ10 => ((r9 = false) → ZC X (rX12_copy zN) mX12_copy [(2, 211), (0, 2), (0, 0)] zN σ10 (zQv (fun σ12 => ZC X (rX12_copy zN) mX12_copy [(2, 211), (0, 3), (0, 1)] zN σ12 (zQv (fun σ14 => Z X (rX12_result zN) mX12_result 87 [(2, 211), (9, 0), (9, 0), (0, y0), (0, 0), (9, 0)] [] zN σ14 (zQv T)))))) ∧ ((r9 = true) → ZC X (rX12_set zN) mX12_set [(2, 211), (0, 1), (1, 1)] zN σ10 (zQv (fun σ16 => T σ16)))))) ∧ ((r7 = true) → ZC X (rX12_turn zN) mX12_turn [(2, 211), (0, 1)] zN σ8 (zQv (fun σ18 => ZC X (rX12_isZero zN) mX12_isZero [(2, 211), (0, 0)] zN σ18 (zQz (fun r19 σ20 => ((r19 = false) → ZC X (rX12_copy zN) mX12_copy [(2, 211), (0, 2), (0, 0)] zN σ20 (zQv (fun σ22 => ZC X (rX12_copy zN) mX12_copy [(2, 211), (0, 3), (0, 1)] zN σ22 (zQv (fun σ24 => Z X (rX12_result zN) mX12_result 87 [(2, 211), (9, 0), (9, 0), (0, y0), (0, 0), (9, 0)] [] zN σ24 (zQv T)))))) ∧ ((r19 = true) → ZC X (rX12_set zN) mX12_set [(2, 211), (0, 1), (1, 1)] zN σ20 (zQv (fun σ26 => T σ26))))))))))) ∧ ((r5 = true) → ZC X (rX12_turn zN) mX12_turn [(2, 211), (0, 0)] zN σ6 (zQv (fun σ28 => ZC X (rX12_isBelow zN) mX12_isBelow [(2, 211), (0, 1)] zN σ28 (zQz (fun r29 σ30 => ((r29 = false) → ZC X (rX12_isZero zN) mX12_isZero [(2, 211), (0, 0)] zN σ30 (zQz (fun r31 σ32 => ((r31 = false) → ZC X (rX12_copy zN) mX12_copy [(2, 211), (0, 2), (0, 0)] zN σ32 (zQv (fun σ34 => ZC X (rX12_copy zN) mX12_copy [(2, 211), (0, 3), (0, 1)] zN σ34 (zQv (fun σ36 => Z X (rX12_result zN) mX12_result 87 [(2, 211), (9, 0), (9, 0), (0, y0), (0, 0), (9, 0)] [] zN σ36 (zQv T)))))) ∧ ((r31 = true) → ZC X (rX12_set zN) mX12_set [(2, 211), (0, 1), (1, 1)] zN σ32 (zQv (fun σ38 => T σ38)))))) ∧ ((r29 = true) → ZC X (rX12_turn zN) mX12_turn [(2, 211), (0, 1)] zN σ30 (zQv (fun σ40 => ZC X (rX12_isZero zN) mX12_isZero [(2, 211), (0, 0)] zN σ40 (zQz (fun r41 σ42 => ((r41 = false) → ZC X (rX12_copy zN) mX12_copy [(2, 211), (0, 2), (0, 0)] zN σ42 (zQv (fun σ44 => ZC X (rX12_copy zN) mX12_copy [(2, 211), (0, 3), (0, 1)] zN σ44 (zQv (fun σ46 => Z X (rX12_result zN) mX12_result 87 [(2, 211), (9, 0), (9, 0), (0, y0), (0, 0), (9, 0)] [] zN σ46 (zQv T)))))) ∧ ((r41 = true) → ZC X (rX12_set zN) mX12_set [(2, 211), (0, 1), (1, 1)] zN σ42 (zQv (fun σ48 => T σ48)))))))))))))))))))) : Z X (rX12_result zN) mX12_result 18 [(2, 211), (0, x1), (0, x2), (9, 0), (9, 0), (9, 0)] [(0, y0)] zN σ (zQv T) := by
  refine Z_istore_n (L' := [(2, 211), (0, x1), (0, x2), (0, y0), (9, 0), (9, 0)]) 3 dX12_result_18 rfl (Nat.le_of_ble_eq_true rfl) rfl ?_
  refine Z_aload_n 0 dX12_result_19 rfl rfl ?_
  refine Z_iconst dX12_result_20 ?_
  refine Z_iload_n 1 dX12_result_21 rfl rfl ?_
  refine Z_invV (T := TX12) (N := 30) (ci := 12) (M' := mX12_copy) (ρ' := rX12_copy zN) (st := []) [(0, 0), (0, x1)] dX12_result_22 rfl rfl la_211 (z_leN la_211 (by decide)) (by decide) rfl rfl (kX12_copy.cl (Nat.le_of_ble_eq_true rfl) (Nat.le_refl _) (Nat.le_refl _) (Nat.le_of_ble_eq_true rfl) (Nat.le_of_ble_eq_true rfl) (Nat.le_of_ble_eq_true rfl)) (mlX12_118 rfl) iX12_copy sX12_copy h (z_kv (fun σ2 h => ?_))
  refine Z_aload_n 0 dX12_result_25 rfl rfl ?_
  refine Z_iconst dX12_result_26 ?_
  refine Z_iload_n 2 dX12_result_27 rfl rfl ?_
  refine Z_invV (T := TX12) (N := 30) (ci := 12) (M' := mX12_copy) (ρ' := rX12_copy zN) (st := []) [(0, 1), (0, x2)] dX12_result_28 rfl rfl la_211 (z_leN la_211 (by decide)) (by decide) rfl rfl (kX12_copy.cl (Nat.le_of_ble_eq_true rfl) (Nat.le_refl _) (Nat.le_refl _) (Nat.le_of_ble_eq_true rfl) (Nat.le_of_ble_eq_true rfl) (Nat.le_of_ble_eq_true rfl)) (mlX12_118 rfl) iX12_copy sX12_copy h (z_kv (fun σ4 h => ?_))
  refine Z_aload_n 0 dX12_result_31 rfl rfl ?_
  refine Z_iconst dX12_result_32 ?_
  refine Z_invV (T := TX12) (N := 30) (ci := 12) (M' := mX12_isBelow) (ρ' := rX12_isBelow zN) (st := []) [(0, 0)] dX12_result_33 rfl rfl la_211 (z_leN la_211 (by decide)) (by decide) rfl rfl (kX12_isBelow.cl (Nat.le_of_ble_eq_true rfl) (Nat.le_refl _) (Nat.le_refl _) (Nat.le_of_ble_eq_true rfl) (Nat.le_of_ble_eq_true rfl) (Nat.le_of_ble_eq_true rfl)) (mlX12_96 rfl) iX12_isBelow sX12_isBelow h (z_kz (fun r5 σ6 h => ?_))
  refine Z_zif_eq (tgt := 44) dX12_result_36 (by decide) (fun c => ?_) (fun c => ?_)
  · replace h := h.1 c
    refine Z_aload_n 0 dX12_result_44 rfl rfl ?_
    refine Z_iconst dX12_result_45 ?_
    refine Z_invV (T := TX12) (N := 30) (ci := 12) (M' := mX12_isBelow) (ρ' := rX12_isBelow zN) (st := []) [(0, 1)] dX12_result_46 rfl rfl la_211 (z_leN la_211 (by decide)) (by decide) rfl rfl (kX12_isBelow.cl (Nat.le_of_ble_eq_true rfl) (Nat.le_refl _) (Nat.le_refl _) (Nat.le_of_ble_eq_true rfl) (Nat.le_of_ble_eq_true rfl) (Nat.le_of_ble_eq_true rfl)) (mlX12_96 rfl) iX12_isBelow sX12_isBelow h (z_kz (fun r7 σ8 h => ?_))
    refine Z_zif_eq (tgt := 57) dX12_result_49 (by decide) (fun c => ?_) (fun c => ?_)
    · replace h := h.1 c
      refine Z_aload_n 0 dX12_result_57 rfl rfl ?_
      refine Z_iconst dX12_result_58 ?_
      refine Z_invV (T := TX12) (N := 30) (ci := 12) (M' := mX12_isZero) (ρ' := rX12_isZero zN) (st := []) [(0, 0)] dX12_result_59 rfl rfl la_211 (z_leN la_211 (by decide)) (by decide) rfl rfl (kX12_isZero.cl (Nat.le_of_ble_eq_true rfl) (Nat.le_refl _) (Nat.le_refl _) (Nat.le_of_ble_eq_true rfl) (Nat.le_of_ble_eq_true rfl) (Nat.le_of_ble_eq_true rfl)) (mlX12_92 rfl) iX12_isZero sX12_isZero h (z_kz (fun r9 σ10 h => ?_))
      refine Z_zif_eq (tgt := 72) dX12_result_62 (by decide) (fun c => ?_) (fun c => ?_)
      · replace h := h.1 c
        refine Z_aload_n 0 dX12_result_72 rfl rfl ?_
        refine Z_iconst dX12_result_73 ?_
        refine Z_iconst dX12_result_74 ?_
        refine Z_invV (T := TX12) (N := 30) (ci := 12) (M' := mX12_copy) (ρ' := rX12_copy zN) (st := []) [(0, 2), (0, 0)] dX12_result_75 rfl rfl la_211 (z_leN la_211 (by decide)) (by decide) rfl rfl (kX12_copy.cl (Nat.le_of_ble_eq_true rfl) (Nat.le_refl _) (Nat.le_refl _) (Nat.le_of_ble_eq_true rfl) (Nat.le_of_ble_eq_true rfl) (Nat.le_of_ble_eq_true rfl)) (mlX12_118 rfl) iX12_copy sX12_copy h (z_kv (fun σ12 h => ?_))
        refine Z_aload_n 0 dX12_result_78 rfl rfl ?_
        refine Z_iconst dX12_result_79 ?_
        refine Z_iconst dX12_result_80 ?_
        refine Z_invV (T := TX12) (N := 30) (ci := 12) (M' := mX12_copy) (ρ' := rX12_copy zN) (st := []) [(0, 3), (0, 1)] dX12_result_81 rfl rfl la_211 (z_leN la_211 (by decide)) (by decide) rfl rfl (kX12_copy.cl (Nat.le_of_ble_eq_true rfl) (Nat.le_refl _) (Nat.le_refl _) (Nat.le_of_ble_eq_true rfl) (Nat.le_of_ble_eq_true rfl) (Nat.le_of_ble_eq_true rfl)) (mlX12_118 rfl) iX12_copy sX12_copy h (z_kv (fun σ14 h => ?_))
        refine Z_iconst dX12_result_84 ?_
        refine Z_istore (L' := [(2, 211), (0, x1), (0, x2), (0, y0), (0, 0), (9, 0)]) dX12_result_85 (Nat.le_of_ble_eq_true rfl) rfl ?_
        exact Z_few (z_few_k (z_few_d (z_few_d (z_few_k (z_few_k (z_few_k z_few_0)))))) h
      · replace h := h.2 c
        refine Z_aload_n 0 dX12_result_65 rfl rfl ?_
        refine Z_iconst dX12_result_66 ?_
        refine Z_lconst (x := 1) dX12_result_67 rfl ?_
        refine Z_invV (T := TX12) (N := 30) (ci := 12) (M' := mX12_set) (ρ' := rX12_set zN) (st := []) [(0, 1), (1, 1)] dX12_result_68 rfl rfl la_211 (z_leN la_211 (by decide)) (by decide) rfl rfl (kX12_set.cl (Nat.le_of_ble_eq_true rfl) (Nat.le_refl _) (Nat.le_refl _) (Nat.le_of_ble_eq_true rfl) (Nat.le_of_ble_eq_true rfl) (Nat.le_of_ble_eq_true rfl)) (mlX12_73 rfl) iX12_set sX12_set h (z_kv (fun σ16 h => ?_))
        exact Z_return dX12_result_71 rfl rfl ⟨rfl, h⟩
    · replace h := h.2 c
      refine Z_aload_n 0 dX12_result_52 rfl rfl ?_
      refine Z_iconst dX12_result_53 ?_
      refine Z_invV (T := TX12) (N := 30) (ci := 12) (M' := mX12_turn) (ρ' := rX12_turn zN) (st := []) [(0, 1)] dX12_result_54 rfl rfl la_211 (z_leN la_211 (by decide)) (by decide) rfl rfl (kX12_turn.cl (Nat.le_of_ble_eq_true rfl) (Nat.le_refl _) (Nat.le_refl _) (Nat.le_of_ble_eq_true rfl) (Nat.le_of_ble_eq_true rfl) (Nat.le_of_ble_eq_true rfl)) (mlX12_99 rfl) iX12_turn sX12_turn h (z_kv (fun σ18 h => ?_))
      refine Z_aload_n 0 dX12_result_57 rfl rfl ?_
      refine Z_iconst dX12_result_58 ?_
      refine Z_invV (T := TX12) (N := 30) (ci := 12) (M' := mX12_isZero) (ρ' := rX12_isZero zN) (st := []) [(0, 0)] dX12_result_59 rfl rfl la_211 (z_leN la_211 (by decide)) (by decide) rfl rfl (kX12_isZero.cl (Nat.le_of_ble_eq_true rfl) (Nat.le_refl _) (Nat.le_refl _) (Nat.le_of_ble_eq_true rfl) (Nat.le_of_ble_eq_true rfl) (Nat.le_of_ble_eq_true rfl)) (mlX12_92 rfl) iX12_isZero sX12_isZero h (z_kz (fun r19 σ20 h => ?_))
      refine Z_zif_eq (tgt := 72) dX12_result_62 (by decide) (fun c => ?_) (fun c => ?_)
      · replace h := h.1 c
        refine Z_aload_n 0 dX12_result_72 rfl rfl ?_
        refine Z_iconst dX12_result_73 ?_
        refine Z_iconst dX12_result_74 ?_
        refine Z_invV (T := TX12) (N := 30) (ci := 12) (M' := mX12_copy) (ρ' := rX12_copy zN) (st := []) [(0, 2), (0, 0)] dX12_result_75 rfl rfl la_211 (z_leN la_211 (by decide)) (by decide) rfl rfl (kX12_copy.cl (Nat.le_of_ble_eq_true rfl) (Nat.le_refl _) (Nat.le_refl _) (Nat.le_of_ble_eq_true rfl) (Nat.le_of_ble_eq_true rfl) (Nat.le_of_ble_eq_true rfl)) (mlX12_118 rfl) iX12_copy sX12_copy h (z_kv (fun σ22 h => ?_))
        refine Z_aload_n 0 dX12_result_78 rfl rfl ?_
        refine Z_iconst dX12_result_79 ?_
        refine Z_iconst dX12_result_80 ?_
        refine Z_invV (T := TX12) (N := 30) (ci := 12) (M' := mX12_copy) (ρ' := rX12_copy zN) (st := []) [(0, 3), (0, 1)] dX12_result_81 rfl rfl la_211 (z_leN la_211 (by decide)) (by decide) rfl rfl (kX12_copy.cl (Nat.le_of_ble_eq_true rfl) (Nat.le_refl _) (Nat.le_refl _) (Nat.le_of_ble_eq_true rfl) (Nat.le_of_ble_eq_true rfl) (Nat.le_of_ble_eq_true rfl)) (mlX12_118 rfl) iX12_copy sX12_copy h (z_kv (fun σ24 h => ?_))
        refine Z_iconst dX12_result_84 ?_
        refine Z_istore (L' := [(2, 211), (0, x1), (0, x2), (0, y0), (0, 0), (9, 0)]) dX12_result_85 (Nat.le_of_ble_eq_true rfl) rfl ?_
        exact Z_few (z_few_k (z_few_d (z_few_d (z_few_k (z_few_k (z_few_k z_few_0)))))) h
      · replace h := h.2 c
        refine Z_aload_n 0 dX12_result_65 rfl rfl ?_
        refine Z_iconst dX12_result_66 ?_
        refine Z_lconst (x := 1) dX12_result_67 rfl ?_
        refine Z_invV (T := TX12) (N := 30) (ci := 12) (M' := mX12_set) (ρ' := rX12_set zN) (st := []) [(0, 1), (1, 1)] dX12_result_68 rfl rfl la_211 (z_leN la_211 (by decide)) (by decide) rfl rfl (kX12_set.cl (Nat.le_of_ble_eq_true rfl) (Nat.le_refl _) (Nat.le_refl _) (Nat.le_of_ble_eq_true rfl) (Nat.le_of_ble_eq_true rfl) (Nat.le_of_ble_eq_true rfl)) (mlX12_73 rfl) iX12_set sX12_set h (z_kv (fun σ26 h => ?_))
        exact Z_return dX12_result_71 rfl rfl ⟨rfl, h⟩
  · replace h := h.2 c
    refine Z_aload_n 0 dX12_result_39 rfl rfl ?_
    refine Z_iconst dX12_result_40 ?_
    refine Z_invV (T := TX12) (N := 30) (ci := 12) (M' := mX12_turn) (ρ' := rX12_turn zN) (st := []) [(0, 0)] dX12_result_41 rfl rfl la_211 (z_leN la_211 (by decide)) (by decide) rfl rfl (kX12_turn.cl (Nat.le_of_ble_eq_true rfl) (Nat.le_refl _) (Nat.le_refl _) (Nat.le_of_ble_eq_true rfl) (Nat.le_of_ble_eq_true rfl) (Nat.le_of_ble_eq_true rfl)) (mlX12_99 rfl) iX12_turn sX12_turn h (z_kv (fun σ28 h => ?_))
    refine Z_aload_n 0 dX12_result_44 rfl rfl ?_
    refine Z_iconst dX12_result_45 ?_
    refine Z_invV (T := TX12) (N := 30) (ci := 12) (M' := mX12_isBelow) (ρ' := rX12_isBelow zN) (st := []) [(0, 1)] dX12_result_46 rfl rfl la_211 (z_leN la_211 (by decide)) (by decide) rfl rfl (kX12_isBelow.cl (Nat.le_of_ble_eq_true rfl) (Nat.le_refl _) (Nat.le_refl _) (Nat.le_of_ble_eq_true rfl) (Nat.le_of_ble_eq_true rfl) (Nat.le_of_ble_eq_true rfl)) (mlX12_96 rfl) iX12_isBelow sX12_isBelow h (z_kz (fun r29 σ30 h => ?_))
    refine Z_zif_eq (tgt := 57) dX12_result_49 (by decide) (fun c => ?_) (fun c => ?_)
    · replace h := h.1 c
      refine Z_aload_n 0 dX12_result_57 rfl rfl ?_
      refine Z_iconst dX12_result_58 ?_
      refine Z_invV (T := TX12) (N := 30) (ci := 12) (M' := mX12_isZero) (ρ' := rX12_isZero zN) (st := []) [(0, 0)] dX12_result_59 rfl rfl la_211 (z_leN la_211 (by decide)) (by decide) rfl rfl (kX12_isZero.cl (Nat.le_of_ble_eq_true rfl) (Nat.le_refl _) (Nat.le_refl _) (Nat.le_of_ble_eq_true rfl) (Nat.le_of_ble_eq_true rfl) (Nat.le_of_ble_eq_true rfl)) (mlX12_92 rfl) iX12_isZero sX12_isZero h (z_kz (fun r31 σ32 h => ?_))
      refine Z_zif_eq (tgt := 72) dX12_result_62 (by decide) (fun c => ?_) (fun c => ?_)
      · replace h := h.1 c
        refine Z_aload_n 0 dX12_result_72 rfl rfl ?_
        refine Z_iconst dX12_result_73 ?_
        refine Z_iconst dX12_result_74 ?_
        refine Z_invV (T := TX12) (N := 30) (ci := 12) (M' := mX12_copy) (ρ' := rX12_copy zN) (st := []) [(0, 2), (0, 0)] dX12_result_75 rfl rfl la_211 (z_leN la_211 (by decide)) (by decide) rfl rfl (kX12_copy.cl (Nat.le_of_ble_eq_true rfl) (Nat.le_refl _) (Nat.le_refl _) (Nat.le_of_ble_eq_true rfl) (Nat.le_of_ble_eq_true rfl) (Nat.le_of_ble_eq_true rfl)) (mlX12_118 rfl) iX12_copy sX12_copy h (z_kv (fun σ34 h => ?_))
        refine Z_aload_n 0 dX12_result_78 rfl rfl ?_
        refine Z_iconst dX12_result_79 ?_
        refine Z_iconst dX12_result_80 ?_
        refine Z_invV (T := TX12) (N := 30) (ci := 12) (M' := mX12_copy) (ρ' := rX12_copy zN) (st := []) [(0, 3), (0, 1)] dX12_result_81 rfl rfl la_211 (z_leN la_211 (by decide)) (by decide) rfl rfl (kX12_copy.cl (Nat.le_of_ble_eq_true rfl) (Nat.le_refl _) (Nat.le_refl _) (Nat.le_of_ble_eq_true rfl) (Nat.le_of_ble_eq_true rfl) (Nat.le_of_ble_eq_true rfl)) (mlX12_118 rfl) iX12_copy sX12_copy h (z_kv (fun σ36 h => ?_))
        refine Z_iconst dX12_result_84 ?_
        refine Z_istore (L' := [(2, 211), (0, x1), (0, x2), (0, y0), (0, 0), (9, 0)]) dX12_result_85 (Nat.le_of_ble_eq_true rfl) rfl ?_
        exact Z_few (z_few_k (z_few_d (z_few_d (z_few_k (z_few_k (z_few_k z_few_0)))))) h
      · replace h := h.2 c
        refine Z_aload_n 0 dX12_result_65 rfl rfl ?_
        refine Z_iconst dX12_result_66 ?_
        refine Z_lconst (x := 1) dX12_result_67 rfl ?_
        refine Z_invV (T := TX12) (N := 30) (ci := 12) (M' := mX12_set) (ρ' := rX12_set zN) (st := []) [(0, 1), (1, 1)] dX12_result_68 rfl rfl la_211 (z_leN la_211 (by decide)) (by decide) rfl rfl (kX12_set.cl (Nat.le_of_ble_eq_true rfl) (Nat.le_refl _) (Nat.le_refl _) (Nat.le_of_ble_eq_true rfl) (Nat.le_of_ble_eq_true rfl) (Nat.le_of_ble_eq_true rfl)) (mlX12_73 rfl) iX12_set sX12_set h (z_kv (fun σ38 h => ?_))
        exact Z_return dX12_result_71 rfl rfl ⟨rfl, h⟩
    · replace h := h.2 c
      refine Z_aload_n 0 dX12_result_52 rfl rfl ?_
      refine Z_iconst dX12_result_53 ?_
      refine Z_invV (T := TX12) (N := 30) (ci := 12) (M' := mX12_turn) (ρ' := rX12_turn zN) (st := []) [(0, 1)] dX12_result_54 rfl rfl la_211 (z_leN la_211 (by decide)) (by decide) rfl rfl (kX12_turn.cl (Nat.le_of_ble_eq_true rfl) (Nat.le_refl _) (Nat.le_refl _) (Nat.le_of_ble_eq_true rfl) (Nat.le_of_ble_eq_true rfl) (Nat.le_of_ble_eq_true rfl)) (mlX12_99 rfl) iX12_turn sX12_turn h (z_kv (fun σ40 h => ?_))
      refine Z_aload_n 0 dX12_result_57 rfl rfl ?_
      refine Z_iconst dX12_result_58 ?_
      refine Z_invV (T := TX12) (N := 30) (ci := 12) (M' := mX12_isZero) (ρ' := rX12_isZero zN) (st := []) [(0, 0)] dX12_result_59 rfl rfl la_211 (z_leN la_211 (by decide)) (by decide) rfl rfl (kX12_isZero.cl (Nat.le_of_ble_eq_true rfl) (Nat.le_refl _) (Nat.le_refl _) (Nat.le_of_ble_eq_true rfl) (Nat.le_of_ble_eq_true rfl) (Nat.le_of_ble_eq_true rfl)) (mlX12_92 rfl) iX12_isZero sX12_isZero h (z_kz (fun r41 σ42 h => ?_))
      refine Z_zif_eq (tgt := 72) dX12_result_62 (by decide) (fun c => ?_) (fun c => ?_)
      · replace h := h.1 c
        refine Z_aload_n 0 dX12_result_72 rfl rfl ?_
        refine Z_iconst dX12_result_73 ?_
        refine Z_iconst dX12_result_74 ?_
        refine Z_invV (T := TX12) (N := 30) (ci := 12) (M' := mX12_copy) (ρ' := rX12_copy zN) (st := []) [(0, 2), (0, 0)] dX12_result_75 rfl rfl la_211 (z_leN la_211 (by decide)) (by decide) rfl rfl (kX12_copy.cl (Nat.le_of_ble_eq_true rfl) (Nat.le_refl _) (Nat.le_refl _) (Nat.le_of_ble_eq_true rfl) (Nat.le_of_ble_eq_true rfl) (Nat.le_of_ble_eq_true rfl)) (mlX12_118 rfl) iX12_copy sX12_copy h (z_kv (fun σ44 h => ?_))
        refine Z_aload_n 0 dX12_result_78 rfl rfl ?_
        refine Z_iconst dX12_result_79 ?_
        refine Z_iconst dX12_result_80 ?_
        refine Z_invV (T := TX12) (N := 30) (ci := 12) (M' := mX12_copy) (ρ' := rX12_copy zN) (st := []) [(0, 3), (0, 1)] dX12_result_81 rfl rfl la_211 (z_leN la_211 (by decide)) (by decide) rfl rfl (kX12_copy.cl (Nat.le_of_ble_eq_true rfl) (Nat.le_refl _) (Nat.le_refl _) (Nat.le_of_ble_eq_true rfl) (Nat.le_of_ble_eq_true rfl) (Nat.le_of_ble_eq_true rfl)) (mlX12_118 rfl) iX12_copy sX12_copy h (z_kv (fun σ46 h => ?_))
        refine Z_iconst dX12_result_84 ?_
        refine Z_istore (L' := [(2, 211), (0, x1), (0, x2), (0, y0), (0, 0), (9, 0)]) dX12_result_85 (Nat.le_of_ble_eq_true rfl) rfl ?_
        exact Z_few (z_few_k (z_few_d (z_few_d (z_few_k (z_few_k (z_few_k z_few_0)))))) h
      · replace h := h.2 c
        refine Z_aload_n 0 dX12_result_65 rfl rfl ?_
        refine Z_iconst dX12_result_66 ?_
        refine Z_lconst (x := 1) dX12_result_67 rfl ?_
        refine Z_invV (T := TX12) (N := 30) (ci := 12) (M' := mX12_set) (ρ' := rX12_set zN) (st := []) [(0, 1), (1, 1)] dX12_result_68 rfl rfl la_211 (z_leN la_211 (by decide)) (by decide) rfl rfl (kX12_set.cl (Nat.le_of_ble_eq_true rfl) (Nat.le_refl _) (Nat.le_refl _) (Nat.le_of_ble_eq_true rfl) (Nat.le_of_ble_eq_true rfl) (Nat.le_of_ble_eq_true rfl)) (mlX12_73 rfl) iX12_set sX12_set h (z_kv (fun σ48 h => ?_))
        exact Z_return dX12_result_71 rfl rfl ⟨rfl, h⟩
theorem bk_X12_result_87 {X : ZS} {σ : ZM} {T : ZM → Prop} {x3 : Int} {x4 : Int} (h : ZC X (rX12_isEven zN) mX12_isEven [(2, 211), (0, 2)] zN σ (zQz (fun r1 σ2 => ((r1 = false) → Z X (rX12_result zN) mX12_result 119 [(2, 211), (9, 0), (9, 0), (0, x3), (0, x4), (9, 0)] [] zN σ2 (zQv T)) ∧ ((r1 = true) → ZC X (rX12_isEven zN) mX12_isEven [(2, 211), (0, 3)] zN σ2 (zQz (fun r3 σ4 => ((r3 = false) → Z X (rX12_result zN) mX12_result 119 [(2, 211), (9, 0), (9, 0), (0, x3), (0, x4), (9, 0)] [] zN σ4 (zQv T)) ∧ ((r3 = true) → ZC X (rX12_half zN) mX12_half [(2, 211), (0, 2)] zN σ4 (zQv (fun σ6 => ZC X (rX12_half zN) mX12_half [(2, 211), (0, 3)] zN σ6 (zQv (fun σ8 => Z X (rX12_result zN) mX12_result 87 [(2, 211), (9, 0), (9, 0), (0, x3), (0, (x4 + 1)), (9, 0)] [] zN σ8 (zQv T)))))))))))) : Z X (rX12_result zN) mX12_result 87 [(2, 211), (9, 0), (9, 0), (0, x3), (0, x4), (9, 0)] [] zN σ (zQv T) := by
  refine Z_aload_n 0 dX12_result_87 rfl rfl ?_
  refine Z_iconst dX12_result_88 ?_
  refine Z_invV (T := TX12) (N := 30) (ci := 12) (M' := mX12_isEven) (ρ' := rX12_isEven zN) (st := []) [(0, 2)] dX12_result_89 rfl rfl la_211 (z_leN la_211 (by decide)) (by decide) rfl rfl (kX12_isEven.cl (Nat.le_of_ble_eq_true rfl) (Nat.le_refl _) (Nat.le_refl _) (Nat.le_of_ble_eq_true rfl) (Nat.le_of_ble_eq_true rfl) (Nat.le_of_ble_eq_true rfl)) (mlX12_122 rfl) iX12_isEven sX12_isEven h (z_kz (fun r1 σ2 h => ?_))
  refine Z_zif_eq (tgt := 119) dX12_result_92 (by decide) (fun c => ?_) (fun c => ?_)
  · replace h := h.1 c
    exact Z_few (z_few_k (z_few_k (z_few_k (z_few_k (z_few_k (z_few_k z_few_0)))))) h
  · replace h := h.2 c
    refine Z_aload_n 0 dX12_result_95 rfl rfl ?_
    refine Z_iconst dX12_result_96 ?_
    refine Z_invV (T := TX12) (N := 30) (ci := 12) (M' := mX12_isEven) (ρ' := rX12_isEven zN) (st := []) [(0, 3)] dX12_result_97 rfl rfl la_211 (z_leN la_211 (by decide)) (by decide) rfl rfl (kX12_isEven.cl (Nat.le_of_ble_eq_true rfl) (Nat.le_refl _) (Nat.le_refl _) (Nat.le_of_ble_eq_true rfl) (Nat.le_of_ble_eq_true rfl) (Nat.le_of_ble_eq_true rfl)) (mlX12_122 rfl) iX12_isEven sX12_isEven h (z_kz (fun r3 σ4 h => ?_))
    refine Z_zif_eq (tgt := 119) dX12_result_100 (by decide) (fun c => ?_) (fun c => ?_)
    · replace h := h.1 c
      exact Z_few (z_few_k (z_few_k (z_few_k (z_few_k (z_few_k (z_few_k z_few_0)))))) h
    · replace h := h.2 c
      refine Z_aload_n 0 dX12_result_103 rfl rfl ?_
      refine Z_iconst dX12_result_104 ?_
      refine Z_invV (T := TX12) (N := 30) (ci := 12) (M' := mX12_half) (ρ' := rX12_half zN) (st := []) [(0, 2)] dX12_result_105 rfl rfl la_211 (z_leN la_211 (by decide)) (by decide) rfl rfl (kX12_half.cl (Nat.le_of_ble_eq_true rfl) (Nat.le_refl _) (Nat.le_refl _) (Nat.le_of_ble_eq_true rfl) (Nat.le_of_ble_eq_true rfl) (Nat.le_of_ble_eq_true rfl)) (mlX12_125 rfl) iX12_half sX12_half h (z_kv (fun σ6 h => ?_))
      refine Z_aload_n 0 dX12_result_108 rfl rfl ?_
      refine Z_iconst dX12_result_109 ?_
      refine Z_invV (T := TX12) (N := 30) (ci := 12) (M' := mX12_half) (ρ' := rX12_half zN) (st := []) [(0, 3)] dX12_result_110 rfl rfl la_211 (z_leN la_211 (by decide)) (by decide) rfl rfl (kX12_half.cl (Nat.le_of_ble_eq_true rfl) (Nat.le_refl _) (Nat.le_refl _) (Nat.le_of_ble_eq_true rfl) (Nat.le_of_ble_eq_true rfl) (Nat.le_of_ble_eq_true rfl)) (mlX12_125 rfl) iX12_half sX12_half h (z_kv (fun σ8 h => ?_))
      refine Z_iinc (L' := [(2, 211), (9, 0), (9, 0), (0, x3), (0, (x4 + 1)), (9, 0)]) dX12_result_113 rfl (Nat.le_of_ble_eq_true rfl) rfl ?_
      refine Z_goto (tgt := 87) dX12_result_116 (by decide) ?_
      exact Z_few (z_few_k (z_few_k (z_few_k (z_few_k (z_few_k (z_few_k z_few_0)))))) h
theorem bk_X12_result_119 {X : ZS} {σ : ZM} {T : ZM → Prop} {x3 : Int} {x4 : Int} (h : ZC X (rX12_isZero zN) mX12_isZero [(2, 211), (0, 2)] zN σ (zQz (fun r1 σ2 => ((r1 = true) → Z X (rX12_result zN) mX12_result 195 [(2, 211), (9, 0), (9, 0), (0, x3), (0, x4), (0, 0)] [] zN σ2 (zQv T)) ∧ ((r1 = false) → Z X (rX12_result zN) mX12_result 127 [(2, 211), (9, 0), (9, 0), (0, x3), (0, x4), (9, 0)] [] zN σ2 (zQv T))))) : Z X (rX12_result zN) mX12_result 119 [(2, 211), (9, 0), (9, 0), (0, x3), (0, x4), (9, 0)] [] zN σ (zQv T) := by
  refine Z_aload_n 0 dX12_result_119 rfl rfl ?_
  refine Z_iconst dX12_result_120 ?_
  refine Z_invV (T := TX12) (N := 30) (ci := 12) (M' := mX12_isZero) (ρ' := rX12_isZero zN) (st := []) [(0, 2)] dX12_result_121 rfl rfl la_211 (z_leN la_211 (by decide)) (by decide) rfl rfl (kX12_isZero.cl (Nat.le_of_ble_eq_true rfl) (Nat.le_refl _) (Nat.le_refl _) (Nat.le_of_ble_eq_true rfl) (Nat.le_of_ble_eq_true rfl) (Nat.le_of_ble_eq_true rfl)) (mlX12_92 rfl) iX12_isZero sX12_isZero h (z_kz (fun r1 σ2 h => ?_))
  refine Z_zif_ne (tgt := 192) dX12_result_124 (by decide) (fun c => ?_) (fun c => ?_)
  · replace h := h.1 c
    refine Z_iconst dX12_result_192 ?_
    refine Z_istore (L' := [(2, 211), (9, 0), (9, 0), (0, x3), (0, x4), (0, 0)]) dX12_result_193 (Nat.le_of_ble_eq_true rfl) rfl ?_
    exact Z_few (z_few_k (z_few_k (z_few_k (z_few_k (z_few_k (z_few_k z_few_0)))))) h
  · replace h := h.2 c
    exact Z_few (z_few_k (z_few_k (z_few_k (z_few_k (z_few_k (z_few_k z_few_0)))))) h
theorem bk_X12_result_127 {X : ZS} {σ : ZM} {T : ZM → Prop} {x3 : Int} {x4 : Int} (h : ZC X (rX12_isEven zN) mX12_isEven [(2, 211), (0, 2)] zN σ (zQz (fun r1 σ2 => ((r1 = false) → Z X (rX12_result zN) mX12_result 143 [(2, 211), (9, 0), (9, 0), (0, x3), (0, x4), (9, 0)] [] zN σ2 (zQv T)) ∧ ((r1 = true) → ZC X (rX12_half zN) mX12_half [(2, 211), (0, 2)] zN σ2 (zQv (fun σ4 => Z X (rX12_result zN) mX12_result 127 [(2, 211), (9, 0), (9, 0), (0, x3), (0, x4), (9, 0)] [] zN σ4 (zQv T))))))) : Z X (rX12_result zN) mX12_result 127 [(2, 211), (9, 0), (9, 0), (0, x3), (0, x4), (9, 0)] [] zN σ (zQv T) := by
  refine Z_aload_n 0 dX12_result_127 rfl rfl ?_
  refine Z_iconst dX12_result_128 ?_
  refine Z_invV (T := TX12) (N := 30) (ci := 12) (M' := mX12_isEven) (ρ' := rX12_isEven zN) (st := []) [(0, 2)] dX12_result_129 rfl rfl la_211 (z_leN la_211 (by decide)) (by decide) rfl rfl (kX12_isEven.cl (Nat.le_of_ble_eq_true rfl) (Nat.le_refl _) (Nat.le_refl _) (Nat.le_of_ble_eq_true rfl) (Nat.le_of_ble_eq_true rfl) (Nat.le_of_ble_eq_true rfl)) (mlX12_122 rfl) iX12_isEven sX12_isEven h (z_kz (fun r1 σ2 h => ?_))
  refine Z_zif_eq (tgt := 143) dX12_result_132 (by decide) (fun c => ?_) (fun c => ?_)
  · replace h := h.1 c
    exact Z_few (z_few_k (z_few_k (z_few_k (z_few_k (z_few_k (z_few_k z_few_0)))))) h
  · replace h := h.2 c
    refine Z_aload_n 0 dX12_result_135 rfl rfl ?_
    refine Z_iconst dX12_result_136 ?_
    refine Z_invV (T := TX12) (N := 30) (ci := 12) (M' := mX12_half) (ρ' := rX12_half zN) (st := []) [(0, 2)] dX12_result_137 rfl rfl la_211 (z_leN la_211 (by decide)) (by decide) rfl rfl (kX12_half.cl (Nat.le_of_ble_eq_true rfl) (Nat.le_refl _) (Nat.le_refl _) (Nat.le_of_ble_eq_true rfl) (Nat.le_of_ble_eq_true rfl) (Nat.le_of_ble_eq_true rfl)) (mlX12_125 rfl) iX12_half sX12_half h (z_kv (fun σ4 h => ?_))
    refine Z_goto (tgt := 127) dX12_result_140 (by decide) ?_
    exact Z_few (z_few_k (z_few_k (z_few_k (z_few_k (z_few_k (z_few_k z_few_0)))))) h
theorem bk_X12_result_143 {X : ZS} {σ : ZM} {T : ZM → Prop} {x3 : Int} {x4 : Int} (h : ZC X (rX12_isEven zN) mX12_isEven [(2, 211), (0, 3)] zN σ (zQz (fun r1 σ2 => ((r1 = false) → ZC X (rX12_isLess zN) mX12_isLess [(2, 211), (0, 2), (0, 3)] zN σ2 (zQz (fun r3 σ4 => ((r3 = false) → ZC X (rX12_more zN) mX12_more [(2, 211), (0, 2), (0, 3), (1, (-1))] zN σ4 (zQv (fun σ6 => Z X (rX12_result zN) mX12_result 119 [(2, 211), (9, 0), (9, 0), (0, x3), (0, x4), (9, 0)] [] zN σ6 (zQv T)))) ∧ ((r3 = true) → ZC X (rX12_more zN) mX12_more [(2, 211), (0, 3), (0, 2), (1, (-1))] zN σ4 (zQv (fun σ8 => Z X (rX12_result zN) mX12_result 119 [(2, 211), (9, 0), (9, 0), (0, x3), (0, x4), (9, 0)] [] zN σ8 (zQv T))))))) ∧ ((r1 = true) → ZC X (rX12_half zN) mX12_half [(2, 211), (0, 3)] zN σ2 (zQv (fun σ10 => Z X (rX12_result zN) mX12_result 143 [(2, 211), (9, 0), (9, 0), (0, x3), (0, x4), (9, 0)] [] zN σ10 (zQv T))))))) : Z X (rX12_result zN) mX12_result 143 [(2, 211), (9, 0), (9, 0), (0, x3), (0, x4), (9, 0)] [] zN σ (zQv T) := by
  refine Z_aload_n 0 dX12_result_143 rfl rfl ?_
  refine Z_iconst dX12_result_144 ?_
  refine Z_invV (T := TX12) (N := 30) (ci := 12) (M' := mX12_isEven) (ρ' := rX12_isEven zN) (st := []) [(0, 3)] dX12_result_145 rfl rfl la_211 (z_leN la_211 (by decide)) (by decide) rfl rfl (kX12_isEven.cl (Nat.le_of_ble_eq_true rfl) (Nat.le_refl _) (Nat.le_refl _) (Nat.le_of_ble_eq_true rfl) (Nat.le_of_ble_eq_true rfl) (Nat.le_of_ble_eq_true rfl)) (mlX12_122 rfl) iX12_isEven sX12_isEven h (z_kz (fun r1 σ2 h => ?_))
  refine Z_zif_eq (tgt := 159) dX12_result_148 (by decide) (fun c => ?_) (fun c => ?_)
  · replace h := h.1 c
    refine Z_aload_n 0 dX12_result_159 rfl rfl ?_
    refine Z_iconst dX12_result_160 ?_
    refine Z_iconst dX12_result_161 ?_
    refine Z_invV (T := TX12) (N := 30) (ci := 12) (M' := mX12_isLess) (ρ' := rX12_isLess zN) (st := []) [(0, 2), (0, 3)] dX12_result_162 rfl rfl la_211 (z_leN la_211 (by decide)) (by decide) rfl rfl (kX12_isLess.cl (Nat.le_of_ble_eq_true rfl) (Nat.le_refl _) (Nat.le_refl _) (Nat.le_of_ble_eq_true rfl) (Nat.le_of_ble_eq_true rfl) (Nat.le_of_ble_eq_true rfl)) (mlX12_128 rfl) iX12_isLess sX12_isLess h (z_kz (fun r3 σ4 h => ?_))
    refine Z_zif_eq (tgt := 180) dX12_result_165 (by decide) (fun c => ?_) (fun c => ?_)
    · replace h := h.1 c
      refine Z_aload_n 0 dX12_result_180 rfl rfl ?_
      refine Z_iconst dX12_result_181 ?_
      refine Z_iconst dX12_result_182 ?_
      refine Z_ldc2 (x := (-1)) dX12_result_183 ctX12_132 rfl ?_
      refine Z_invV (T := TX12) (N := 30) (ci := 12) (M' := mX12_more) (ρ' := rX12_more zN) (st := []) [(0, 2), (0, 3), (1, (-1))] dX12_result_186 rfl rfl la_211 (z_leN la_211 (by decide)) (by decide) rfl rfl (kX12_more.cl (Nat.le_of_ble_eq_true rfl) (Nat.le_refl _) (Nat.le_refl _) (Nat.le_of_ble_eq_true rfl) (Nat.le_of_ble_eq_true rfl) (Nat.le_of_ble_eq_true rfl)) (mlX12_134 rfl) iX12_more sX12_more h (z_kv (fun σ6 h => ?_))
      refine Z_goto (tgt := 119) dX12_result_189 (by decide) ?_
      exact Z_few (z_few_k (z_few_k (z_few_k (z_few_k (z_few_k (z_few_k z_few_0)))))) h
    · replace h := h.2 c
      refine Z_aload_n 0 dX12_result_168 rfl rfl ?_
      refine Z_iconst dX12_result_169 ?_
      refine Z_iconst dX12_result_170 ?_
      refine Z_ldc2 (x := (-1)) dX12_result_171 ctX12_132 rfl ?_
      refine Z_invV (T := TX12) (N := 30) (ci := 12) (M' := mX12_more) (ρ' := rX12_more zN) (st := []) [(0, 3), (0, 2), (1, (-1))] dX12_result_174 rfl rfl la_211 (z_leN la_211 (by decide)) (by decide) rfl rfl (kX12_more.cl (Nat.le_of_ble_eq_true rfl) (Nat.le_refl _) (Nat.le_refl _) (Nat.le_of_ble_eq_true rfl) (Nat.le_of_ble_eq_true rfl) (Nat.le_of_ble_eq_true rfl)) (mlX12_134 rfl) iX12_more sX12_more h (z_kv (fun σ8 h => ?_))
      refine Z_goto (tgt := 119) dX12_result_177 (by decide) ?_
      exact Z_few (z_few_k (z_few_k (z_few_k (z_few_k (z_few_k (z_few_k z_few_0)))))) h
  · replace h := h.2 c
    refine Z_aload_n 0 dX12_result_151 rfl rfl ?_
    refine Z_iconst dX12_result_152 ?_
    refine Z_invV (T := TX12) (N := 30) (ci := 12) (M' := mX12_half) (ρ' := rX12_half zN) (st := []) [(0, 3)] dX12_result_153 rfl rfl la_211 (z_leN la_211 (by decide)) (by decide) rfl rfl (kX12_half.cl (Nat.le_of_ble_eq_true rfl) (Nat.le_refl _) (Nat.le_refl _) (Nat.le_of_ble_eq_true rfl) (Nat.le_of_ble_eq_true rfl) (Nat.le_of_ble_eq_true rfl)) (mlX12_125 rfl) iX12_half sX12_half h (z_kv (fun σ10 h => ?_))
    refine Z_goto (tgt := 143) dX12_result_156 (by decide) ?_
    exact Z_few (z_few_k (z_few_k (z_few_k (z_few_k (z_few_k (z_few_k z_few_0)))))) h
theorem bk_X12_result_195 {X : ZS} {σ : ZM} {T : ZM → Prop} {x3 : Int} {x4 : Int} {x5 : Int} (h : (r32 x5) ∧ (r32 x4) ∧ ((x4 ≤ x5) → ZC X (rX12_parts zN) mX12_parts [(2, 211), (0, 0), (0, 3)] zN σ (zQv (fun σ4 => ZC X (rX12_parts zN) mX12_parts [(2, 211), (0, 1), (0, 3)] zN σ4 (zQv (fun σ6 => (r32 x3) ∧ ((x3 = 0) → T σ6) ∧ ((¬ x3 = 0) → ZC X (rX12_turn zN) mX12_turn [(2, 211), (0, 0)] zN σ6 (zQv (fun σ9 => T σ9)))))))) ∧ ((¬ (x4 ≤ x5)) → ZC X (rX12_copy zN) mX12_copy [(2, 211), (0, 4), (0, 3)] zN σ (zQv (fun σ11 => ZC X (rX12_more zN) mX12_more [(2, 211), (0, 3), (0, 4), (1, 1)] zN σ11 (zQv (fun σ13 => Z X (rX12_result zN) mX12_result 195 [(2, 211), (9, 0), (9, 0), (0, x3), (0, x4), (0, (x5 + 1))] [] zN σ13 (zQv T))))))) : Z X (rX12_result zN) mX12_result 195 [(2, 211), (9, 0), (9, 0), (0, x3), (0, x4), (0, x5)] [] zN σ (zQv T) := by
  refine Z_iload dX12_result_195 rfl ?_
  refine Z_iload dX12_result_197 rfl ?_
  obtain ⟨g1, h⟩ := h
  obtain ⟨g2, h⟩ := h
  refine Z_icmp_ge (tgt := 221) dX12_result_199 (by decide) g1 g2 (fun c => ?_) (fun c => ?_)
  · replace h := h.1 c
    refine Z_aload_n 0 dX12_result_221 rfl rfl ?_
    refine Z_iconst dX12_result_222 ?_
    refine Z_iconst dX12_result_223 ?_
    refine Z_invV (T := TX12) (N := 30) (ci := 12) (M' := mX12_parts) (ρ' := rX12_parts zN) (st := []) [(0, 0), (0, 3)] dX12_result_224 rfl rfl la_211 (z_leN la_211 (by decide)) (by decide) rfl rfl (kX12_parts.cl (Nat.le_of_ble_eq_true rfl) (Nat.le_refl _) (Nat.le_refl _) (Nat.le_of_ble_eq_true rfl) (Nat.le_of_ble_eq_true rfl) (Nat.le_of_ble_eq_true rfl)) (mlX12_138 rfl) iX12_parts sX12_parts h (z_kv (fun σ4 h => ?_))
    refine Z_aload_n 0 dX12_result_227 rfl rfl ?_
    refine Z_iconst dX12_result_228 ?_
    refine Z_iconst dX12_result_229 ?_
    refine Z_invV (T := TX12) (N := 30) (ci := 12) (M' := mX12_parts) (ρ' := rX12_parts zN) (st := []) [(0, 1), (0, 3)] dX12_result_230 rfl rfl la_211 (z_leN la_211 (by decide)) (by decide) rfl rfl (kX12_parts.cl (Nat.le_of_ble_eq_true rfl) (Nat.le_refl _) (Nat.le_refl _) (Nat.le_of_ble_eq_true rfl) (Nat.le_of_ble_eq_true rfl) (Nat.le_of_ble_eq_true rfl)) (mlX12_138 rfl) iX12_parts sX12_parts h (z_kv (fun σ6 h => ?_))
    refine Z_iload_n 3 dX12_result_233 rfl rfl ?_
    obtain ⟨g7, h⟩ := h
    refine Z_if_eq (tgt := 242) dX12_result_234 (by decide) g7 (fun c => ?_) (fun c => ?_)
    · replace h := h.1 c
      exact Z_return dX12_result_242 rfl rfl ⟨rfl, h⟩
    · replace h := h.2 c
      refine Z_aload_n 0 dX12_result_237 rfl rfl ?_
      refine Z_iconst dX12_result_238 ?_
      refine Z_invV (T := TX12) (N := 30) (ci := 12) (M' := mX12_turn) (ρ' := rX12_turn zN) (st := []) [(0, 0)] dX12_result_239 rfl rfl la_211 (z_leN la_211 (by decide)) (by decide) rfl rfl (kX12_turn.cl (Nat.le_of_ble_eq_true rfl) (Nat.le_refl _) (Nat.le_refl _) (Nat.le_of_ble_eq_true rfl) (Nat.le_of_ble_eq_true rfl) (Nat.le_of_ble_eq_true rfl)) (mlX12_99 rfl) iX12_turn sX12_turn h (z_kv (fun σ9 h => ?_))
      exact Z_return dX12_result_242 rfl rfl ⟨rfl, h⟩
  · replace h := h.2 c
    refine Z_aload_n 0 dX12_result_202 rfl rfl ?_
    refine Z_iconst dX12_result_203 ?_
    refine Z_iconst dX12_result_204 ?_
    refine Z_invV (T := TX12) (N := 30) (ci := 12) (M' := mX12_copy) (ρ' := rX12_copy zN) (st := []) [(0, 4), (0, 3)] dX12_result_205 rfl rfl la_211 (z_leN la_211 (by decide)) (by decide) rfl rfl (kX12_copy.cl (Nat.le_of_ble_eq_true rfl) (Nat.le_refl _) (Nat.le_refl _) (Nat.le_of_ble_eq_true rfl) (Nat.le_of_ble_eq_true rfl) (Nat.le_of_ble_eq_true rfl)) (mlX12_118 rfl) iX12_copy sX12_copy h (z_kv (fun σ11 h => ?_))
    refine Z_aload_n 0 dX12_result_208 rfl rfl ?_
    refine Z_iconst dX12_result_209 ?_
    refine Z_iconst dX12_result_210 ?_
    refine Z_lconst (x := 1) dX12_result_211 rfl ?_
    refine Z_invV (T := TX12) (N := 30) (ci := 12) (M' := mX12_more) (ρ' := rX12_more zN) (st := []) [(0, 3), (0, 4), (1, 1)] dX12_result_212 rfl rfl la_211 (z_leN la_211 (by decide)) (by decide) rfl rfl (kX12_more.cl (Nat.le_of_ble_eq_true rfl) (Nat.le_refl _) (Nat.le_refl _) (Nat.le_of_ble_eq_true rfl) (Nat.le_of_ble_eq_true rfl) (Nat.le_of_ble_eq_true rfl)) (mlX12_134 rfl) iX12_more sX12_more h (z_kv (fun σ13 h => ?_))
    refine Z_iinc (L' := [(2, 211), (9, 0), (9, 0), (0, x3), (0, x4), (0, (x5 + 1))]) dX12_result_215 rfl (Nat.le_of_ble_eq_true rfl) rfl ?_
    refine Z_goto (tgt := 195) dX12_result_218 (by decide) ?_
    exact Z_few (z_few_k (z_few_k (z_few_k (z_few_k (z_few_k (z_few_k z_few_0)))))) h
theorem bk_X12_isSlot {X : ZS} {σ : ZM} {T : Bool → ZM → Prop} {x0 : Int} (h : (r32 x0) ∧ ((x0 < 0) → T false σ) ∧ ((¬ (x0 < 0)) → ((7 < x0) → T false σ) ∧ ((¬ (7 < x0)) → T true σ))) : ZC X (rX12_isSlot zN) mX12_isSlot [(0, x0)] zN σ (zQz T) := by
  show Z X _ _ 0 [(0, x0)] [] _ σ _
  refine Z_iload_n 0 dX12_isSlot_0 rfl rfl ?_
  obtain ⟨g1, h⟩ := h
  refine Z_if_lt (tgt := 14) dX12_isSlot_1 (by decide) g1 (fun c => ?_) (fun c => ?_)
  · replace h := h.1 c
    refine Z_iconst dX12_isSlot_14 ?_
    exact Z_zreturn dX12_isSlot_15 rfl (Or.inl rfl) rfl ⟨rfl, false, rfl, h⟩
  · replace h := h.2 c
    refine Z_iload_n 0 dX12_isSlot_4 rfl rfl ?_
    refine Z_bipush dX12_isSlot_5 (by decide) ?_
    refine Z_icmp_gt (tgt := 14) dX12_isSlot_7 (by decide) g1 ⟨by decide, by decide⟩ (fun c => ?_) (fun c => ?_)
    · replace h := h.1 c
      refine Z_iconst dX12_isSlot_14 ?_
      exact Z_zreturn dX12_isSlot_15 rfl (Or.inl rfl) rfl ⟨rfl, false, rfl, h⟩
    · replace h := h.2 c
      refine Z_iconst dX12_isSlot_10 ?_
      refine Z_goto (tgt := 15) dX12_isSlot_11 (by decide) ?_
      exact Z_zreturn dX12_isSlot_15 rfl (Or.inr rfl) rfl ⟨rfl, true, rfl, h⟩
theorem bk_X12_row {X : ZS} {σ : ZM} {T : Int → ZM → Prop} {x1 : Int} {x2 : Int} {x3 : Int} (h : ZC X (rX12_isSlot zN) mX12_isSlot [(0, x1)] zN σ (zQz (fun r1 σ2 => ((r1 = false) → T (-2) σ2) ∧ ((r1 = true) → (r32 x2) ∧ ((x2 < 0) → T (-2) σ2) ∧ ((¬ (x2 < 0)) → ((3 < x2) → T (-2) σ2) ∧ ((¬ (3 < x2)) → (r32 x3) ∧ ((x3 ≤ 60) → ((0 ≤ x3) → (Fix σ2) ∧ (0 ≤ x1) ∧ (x1 < 8) ∧ Z X (rX12_row zN) mX12_row 51 [(2, 211), (0, x1), (9, 0), (0, x3), (0, 0)] [] zN (z_up (z_up σ2 213 x1 (x3 + 1)) 214 x1 x2) (zQi T)) ∧ ((¬ (0 ≤ x3)) → T (-3) σ2)) ∧ ((¬ (x3 ≤ 60)) → T (-2) σ2))))))) : ZC X (rX12_row zN) mX12_row [(2, 211), (0, x1), (0, x2), (0, x3)] zN σ (zQi T) := by
  show Z X _ _ 0 [(2, 211), (0, x1), (0, x2), (0, x3), (9, 0)] [] _ σ _
  refine Z_iload_n 1 dX12_row_0 rfl rfl ?_
  refine Z_invS (M' := mX12_isSlot) (ρ' := rX12_isSlot zN) (st := []) [(0, x1)] dX12_row_1 rfl rfl (kX12_isSlot.cl (Nat.le_of_ble_eq_true rfl) (Nat.le_refl _) (Nat.le_refl _) (Nat.le_of_ble_eq_true rfl) (Nat.le_of_ble_eq_true rfl) (Nat.le_of_ble_eq_true rfl)) (mlX12_141 rfl) sX12_isSlot h (z_kz (fun r1 σ2 h => ?_))
  refine Z_zif_eq (tgt := 22) dX12_row_4 (by decide) (fun c => ?_) (fun c => ?_)
  · replace h := h.1 c
    refine Z_bipush dX12_row_22 (by decide) ?_
    exact Z_ireturn dX12_row_24 rfl rfl ⟨rfl, h⟩
  · replace h := h.2 c
    refine Z_iload_n 2 dX12_row_7 rfl rfl ?_
    obtain ⟨g3, h⟩ := h
    refine Z_if_lt (tgt := 22) dX12_row_8 (by decide) g3 (fun c => ?_) (fun c => ?_)
    · replace h := h.1 c
      refine Z_bipush dX12_row_22 (by decide) ?_
      exact Z_ireturn dX12_row_24 rfl rfl ⟨rfl, h⟩
    · replace h := h.2 c
      refine Z_iload_n 2 dX12_row_11 rfl rfl ?_
      refine Z_iconst dX12_row_12 ?_
      refine Z_icmp_gt (tgt := 22) dX12_row_13 (by decide) g3 ⟨by decide, by decide⟩ (fun c => ?_) (fun c => ?_)
      · replace h := h.1 c
        refine Z_bipush dX12_row_22 (by decide) ?_
        exact Z_ireturn dX12_row_24 rfl rfl ⟨rfl, h⟩
      · replace h := h.2 c
        refine Z_iload_n 3 dX12_row_16 rfl rfl ?_
        refine Z_bipush dX12_row_17 (by decide) ?_
        obtain ⟨g4, h⟩ := h
        refine Z_icmp_le (tgt := 25) dX12_row_19 (by decide) g4 ⟨by decide, by decide⟩ (fun c => ?_) (fun c => ?_)
        · replace h := h.1 c
          refine Z_iload_n 3 dX12_row_25 rfl rfl ?_
          refine Z_if_ge (tgt := 32) dX12_row_26 (by decide) g4 (fun c => ?_) (fun c => ?_)
          · replace h := h.1 c
            refine Z_aload_n 0 dX12_row_32 rfl rfl ?_
            obtain ⟨g5, h⟩ := h
            refine Z_get (T := TX12) (N := 30) (ci := 12) (t := 2) 1 dX12_row_33 la_211 (z_leN la_211 (by decide)) rfl (by decide) inX12 (by decide) (flX12_13 rfl) rfl ?_
            refine Z_top (y := 213) ((Fix.get g5 la_211 1 2 (by decide +kernel)).trans (by clear h; omega)) ?_
            refine Z_iload_n 1 dX12_row_36 rfl rfl ?_
            refine Z_iload_n 3 dX12_row_37 rfl rfl ?_
            refine Z_iconst dX12_row_38 ?_
            refine Z_iadd dX12_row_39 ?_
            obtain ⟨g6, h⟩ := h
            obtain ⟨g7, h⟩ := h
            refine Z_iast dX12_row_40 la_213 (z_leN la_213 (by decide)) g6 g7 ?_
            refine Z_aload_n 0 dX12_row_41 rfl rfl ?_
            refine Z_get (T := TX12) (N := 30) (ci := 12) (t := 2) 2 dX12_row_42 la_211 (z_leN la_211 (by decide)) rfl (by decide) inX12 (by decide) (flX12_17 rfl) rfl ?_
            refine Z_top (y := 214) ((Fix.get (Fix.upA g5 la_213 (by decide)) la_211 2 3 (by decide +kernel)).trans (by clear h; omega)) ?_
            refine Z_iload_n 1 dX12_row_45 rfl rfl ?_
            refine Z_iload_n 2 dX12_row_46 rfl rfl ?_
            refine Z_iast dX12_row_47 la_214 (z_leN la_214 (by decide)) g6 g7 ?_
            refine Z_iconst dX12_row_48 ?_
            refine Z_istore (L' := [(2, 211), (0, x1), (0, x2), (0, x3), (0, 0)]) dX12_row_49 (Nat.le_of_ble_eq_true rfl) rfl ?_
            exact Z_few (z_few_k (z_few_k (z_few_d (z_few_k (z_few_k z_few_0))))) h
          · replace h := h.2 c
            refine Z_bipush dX12_row_29 (by decide) ?_
            exact Z_ireturn dX12_row_31 rfl rfl ⟨rfl, h⟩
        · replace h := h.2 c
          refine Z_bipush dX12_row_22 (by decide) ?_
          exact Z_ireturn dX12_row_24 rfl rfl ⟨rfl, h⟩
theorem bk_X12_row_51 {X : ZS} {σ : ZM} {T : Int → ZM → Prop} {x1 : Int} {x3 : Int} {x4 : Int} (h : (r32 x4) ∧ (r32 x3) ∧ ((x3 ≤ x4) → T 0 σ) ∧ ((¬ (x3 ≤ x4)) → (Fix σ) ∧ (0 ≤ ((60 * x1) + x4)) ∧ (((60 * x1) + x4) < 480) ∧ Z X (rX12_row zN) mX12_row 51 [(2, 211), (0, x1), (9, 0), (0, x3), (0, (x4 + 1))] [] zN (z_up σ 215 ((60 * x1) + x4) 0) (zQi T))) : Z X (rX12_row zN) mX12_row 51 [(2, 211), (0, x1), (9, 0), (0, x3), (0, x4)] [] zN σ (zQi T) := by
  refine Z_iload dX12_row_51 rfl ?_
  refine Z_iload_n 3 dX12_row_53 rfl rfl ?_
  obtain ⟨g1, h⟩ := h
  obtain ⟨g2, h⟩ := h
  refine Z_icmp_ge (tgt := 76) dX12_row_54 (by decide) g1 g2 (fun c => ?_) (fun c => ?_)
  · replace h := h.1 c
    refine Z_iconst dX12_row_76 ?_
    exact Z_ireturn dX12_row_77 rfl rfl ⟨rfl, h⟩
  · replace h := h.2 c
    refine Z_aload_n 0 dX12_row_57 rfl rfl ?_
    obtain ⟨g3, h⟩ := h
    refine Z_get (T := TX12) (N := 30) (ci := 12) (t := 2) 3 dX12_row_58 la_211 (z_leN la_211 (by decide)) rfl (by decide) inX12 (by decide) (flX12_20 rfl) rfl ?_
    refine Z_top (y := 215) ((Fix.get g3 la_211 3 4 (by decide +kernel)).trans (by clear h; omega)) ?_
    refine Z_bipush dX12_row_61 (by decide) ?_
    refine Z_iload_n 1 dX12_row_63 rfl rfl ?_
    refine Z_imul dX12_row_64 ?_
    refine Z_iload dX12_row_65 rfl ?_
    refine Z_iadd dX12_row_67 ?_
    refine Z_lconst (x := 0) dX12_row_68 rfl ?_
    obtain ⟨g4, h⟩ := h
    obtain ⟨g5, h⟩ := h
    refine Z_last dX12_row_69 la_215 (z_leN la_215 (by decide)) g4 g5 ?_
    refine Z_iinc (L' := [(2, 211), (0, x1), (9, 0), (0, x3), (0, (x4 + 1))]) dX12_row_70 rfl (Nat.le_of_ble_eq_true rfl) rfl ?_
    refine Z_goto (tgt := 51) dX12_row_73 (by decide) ?_
    exact Z_few (z_few_k (z_few_k (z_few_k (z_few_k (z_few_k z_few_0))))) h
theorem bk_X12_tear {X : ZS} {σ : ZM} {T : Bool → ZM → Prop} {x1 : Int} (h : ZC X (rX12_isSlot zN) mX12_isSlot [(0, x1)] zN σ (zQz (fun r1 σ2 => ((r1 = false) → T false σ2) ∧ ((r1 = true) → (Fix σ2) ∧ (0 ≤ x1) ∧ (x1 < 8) ∧ (r32 (σ2 213 x1)) ∧ ((¬ (σ2 213 x1) = 0) → T true (z_up σ2 213 x1 0)) ∧ (((σ2 213 x1) = 0) → T false σ2))))) : ZC X (rX12_tear zN) mX12_tear [(2, 211), (0, x1)] zN σ (zQz T) := by
  show Z X _ _ 0 [(2, 211), (0, x1)] [] _ σ _
  refine Z_iload_n 1 dX12_tear_0 rfl rfl ?_
  refine Z_invS (M' := mX12_isSlot) (ρ' := rX12_isSlot zN) (st := []) [(0, x1)] dX12_tear_1 rfl rfl (kX12_isSlot.cl (Nat.le_of_ble_eq_true rfl) (Nat.le_refl _) (Nat.le_refl _) (Nat.le_of_ble_eq_true rfl) (Nat.le_of_ble_eq_true rfl) (Nat.le_of_ble_eq_true rfl)) (mlX12_141 rfl) sX12_isSlot h (z_kz (fun r1 σ2 h => ?_))
  refine Z_zif_eq (tgt := 16) dX12_tear_4 (by decide) (fun c => ?_) (fun c => ?_)
  · replace h := h.1 c
    refine Z_iconst dX12_tear_16 ?_
    exact Z_zreturn dX12_tear_17 rfl (Or.inl rfl) rfl ⟨rfl, false, rfl, h⟩
  · replace h := h.2 c
    refine Z_aload_n 0 dX12_tear_7 rfl rfl ?_
    obtain ⟨g3, h⟩ := h
    refine Z_get (T := TX12) (N := 30) (ci := 12) (t := 2) 1 dX12_tear_8 la_211 (z_leN la_211 (by decide)) rfl (by decide) inX12 (by decide) (flX12_13 rfl) rfl ?_
    refine Z_top (y := 213) ((Fix.get g3 la_211 1 2 (by decide +kernel)).trans (by clear h; omega)) ?_
    refine Z_iload_n 1 dX12_tear_11 rfl rfl ?_
    obtain ⟨g4, h⟩ := h
    obtain ⟨g5, h⟩ := h
    refine Z_iald dX12_tear_12 la_213 (z_leN la_213 (by decide)) g4 g5 ?_
    obtain ⟨g6, h⟩ := h
    refine Z_if_ne (tgt := 18) dX12_tear_13 (by decide) g6 (fun c => ?_) (fun c => ?_)
    · replace h := h.1 c
      refine Z_aload_n 0 dX12_tear_18 rfl rfl ?_
      refine Z_get (T := TX12) (N := 30) (ci := 12) (t := 2) 1 dX12_tear_19 la_211 (z_leN la_211 (by decide)) rfl (by decide) inX12 (by decide) (flX12_13 rfl) rfl ?_
      refine Z_top (y := 213) ((Fix.get g3 la_211 1 2 (by decide +kernel)).trans (by clear h; omega)) ?_
      refine Z_iload_n 1 dX12_tear_22 rfl rfl ?_
      refine Z_iconst dX12_tear_23 ?_
      refine Z_iast dX12_tear_24 la_213 (z_leN la_213 (by decide)) g4 g5 ?_
      refine Z_iconst dX12_tear_25 ?_
      exact Z_zreturn dX12_tear_26 rfl (Or.inr rfl) rfl ⟨rfl, true, rfl, h⟩
    · replace h := h.2 c
      refine Z_iconst dX12_tear_16 ?_
      exact Z_zreturn dX12_tear_17 rfl (Or.inl rfl) rfl ⟨rfl, false, rfl, h⟩
theorem bk_X12_write {X : ZS} {σ : ZM} {T : Int → ZM → Prop} {x1 : Int} {x2 : Int} {x3 : Int} (h : ZC X (rX12_isSlot zN) mX12_isSlot [(0, x1)] zN σ (zQz (fun r1 σ2 => ((r1 = true) → (Fix σ2) ∧ (0 ≤ x1) ∧ (x1 < 8) ∧ (r32 (σ2 213 x1)) ∧ ((¬ (σ2 213 x1) = 0) → (r32 x2) ∧ ((x2 < 0) → T (-6) σ2) ∧ ((¬ (x2 < 0)) → (r32 ((σ2 213 x1) - 1)) ∧ ((x2 < ((σ2 213 x1) - 1)) → (r32 (σ2 214 x1)) ∧ ((¬ (σ2 214 x1) = 0) → ((¬ (σ2 214 x1) = 1) → ((¬ (σ2 214 x1) = 2) → (0 ≤ ((60 * x1) + x2)) ∧ (((60 * x1) + x2) < 480) ∧ T 0 (z_up σ2 215 ((60 * x1) + x2) x3)) ∧ (((σ2 214 x1) = 2) → (r32 x3) ∧ (0 ≤ ((60 * x1) + x2)) ∧ (((60 * x1) + x2) < 480) ∧ T 0 (z_up σ2 215 ((60 * x1) + x2) x3))) ∧ (((σ2 214 x1) = 1) → (r32 (Int.bmod x3 65536)) ∧ (0 ≤ ((60 * x1) + x2)) ∧ (((60 * x1) + x2) < 480) ∧ T 0 (z_up σ2 215 ((60 * x1) + x2) (Int.bmod x3 65536)))) ∧ (((σ2 214 x1) = 0) → (r32 (Int.bmod x3 256)) ∧ (0 ≤ ((60 * x1) + x2)) ∧ (((60 * x1) + x2) < 480) ∧ T 0 (z_up σ2 215 ((60 * x1) + x2) (Int.bmod x3 256)))) ∧ ((¬ (x2 < ((σ2 213 x1) - 1))) → T (-6) σ2))) ∧ (((σ2 213 x1) = 0) → T (-5) σ2)) ∧ ((r1 = false) → T (-2) σ2)))) : ZC X (rX12_write zN) mX12_write [(2, 211), (0, x1), (0, x2), (1, x3)] zN σ (zQi T) := by
  show Z X _ _ 0 [(2, 211), (0, x1), (0, x2), (1, x3), (9, 0), (9, 0)] [] _ σ _
  refine Z_iload_n 1 dX12_write_0 rfl rfl ?_
  refine Z_invS (M' := mX12_isSlot) (ρ' := rX12_isSlot zN) (st := []) [(0, x1)] dX12_write_1 rfl rfl (kX12_isSlot.cl (Nat.le_of_ble_eq_true rfl) (Nat.le_refl _) (Nat.le_refl _) (Nat.le_of_ble_eq_true rfl) (Nat.le_of_ble_eq_true rfl) (Nat.le_of_ble_eq_true rfl)) (mlX12_141 rfl) sX12_isSlot h (z_kz (fun r1 σ2 h => ?_))
  refine Z_zif_ne (tgt := 10) dX12_write_4 (by decide) (fun c => ?_) (fun c => ?_)
  · replace h := h.1 c
    refine Z_aload_n 0 dX12_write_10 rfl rfl ?_
    obtain ⟨g3, h⟩ := h
    refine Z_get (T := TX12) (N := 30) (ci := 12) (t := 2) 1 dX12_write_11 la_211 (z_leN la_211 (by decide)) rfl (by decide) inX12 (by decide) (flX12_13 rfl) rfl ?_
    refine Z_top (y := 213) ((Fix.get g3 la_211 1 2 (by decide +kernel)).trans (by clear h; omega)) ?_
    refine Z_iload_n 1 dX12_write_14 rfl rfl ?_
    obtain ⟨g4, h⟩ := h
    obtain ⟨g5, h⟩ := h
    refine Z_iald dX12_write_15 la_213 (z_leN la_213 (by decide)) g4 g5 ?_
    obtain ⟨g6, h⟩ := h
    refine Z_if_ne (tgt := 22) dX12_write_16 (by decide) g6 (fun c => ?_) (fun c => ?_)
    · replace h := h.1 c
      refine Z_iload_n 2 dX12_write_22 rfl rfl ?_
      obtain ⟨g7, h⟩ := h
      refine Z_if_lt (tgt := 38) dX12_write_23 (by decide) g7 (fun c => ?_) (fun c => ?_)
      · replace h := h.1 c
        refine Z_bipush dX12_write_38 (by decide) ?_
        exact Z_ireturn dX12_write_40 rfl rfl ⟨rfl, h⟩
      · replace h := h.2 c
        refine Z_iload_n 2 dX12_write_26 rfl rfl ?_
        refine Z_aload_n 0 dX12_write_27 rfl rfl ?_
        refine Z_get (T := TX12) (N := 30) (ci := 12) (t := 2) 1 dX12_write_28 la_211 (z_leN la_211 (by decide)) rfl (by decide) inX12 (by decide) (flX12_13 rfl) rfl ?_
        refine Z_top (y := 213) ((Fix.get g3 la_211 1 2 (by decide +kernel)).trans (by clear h; omega)) ?_
        refine Z_iload_n 1 dX12_write_31 rfl rfl ?_
        refine Z_iald dX12_write_32 la_213 (z_leN la_213 (by decide)) g4 g5 ?_
        refine Z_iconst dX12_write_33 ?_
        refine Z_isub dX12_write_34 ?_
        obtain ⟨g8, h⟩ := h
        refine Z_icmp_lt (tgt := 41) dX12_write_35 (by decide) g7 g8 (fun c => ?_) (fun c => ?_)
        · replace h := h.1 c
          refine Z_aload_n 0 dX12_write_41 rfl rfl ?_
          refine Z_get (T := TX12) (N := 30) (ci := 12) (t := 2) 2 dX12_write_42 la_211 (z_leN la_211 (by decide)) rfl (by decide) inX12 (by decide) (flX12_17 rfl) rfl ?_
          refine Z_top (y := 214) ((Fix.get g3 la_211 2 3 (by decide +kernel)).trans (by clear h; omega)) ?_
          refine Z_iload_n 1 dX12_write_45 rfl rfl ?_
          refine Z_iald dX12_write_46 la_214 (z_leN la_214 (by decide)) g4 g5 ?_
          refine Z_istore (L' := [(2, 211), (0, x1), (0, x2), (1, x3), (9, 0), (0, (σ2 214 x1))]) dX12_write_47 (Nat.le_of_ble_eq_true rfl) rfl ?_
          refine Z_aload_n 0 dX12_write_49 rfl rfl ?_
          refine Z_get (T := TX12) (N := 30) (ci := 12) (t := 2) 3 dX12_write_50 la_211 (z_leN la_211 (by decide)) rfl (by decide) inX12 (by decide) (flX12_20 rfl) rfl ?_
          refine Z_top (y := 215) ((Fix.get g3 la_211 3 4 (by decide +kernel)).trans (by clear h; omega)) ?_
          refine Z_bipush dX12_write_53 (by decide) ?_
          refine Z_iload_n 1 dX12_write_55 rfl rfl ?_
          refine Z_imul dX12_write_56 ?_
          refine Z_iload_n 2 dX12_write_57 rfl rfl ?_
          refine Z_iadd dX12_write_58 ?_
          refine Z_iload dX12_write_59 rfl ?_
          obtain ⟨g9, h⟩ := h
          refine Z_if_ne (tgt := 71) dX12_write_61 (by decide) g9 (fun c => ?_) (fun c => ?_)
          · replace h := h.1 c
            refine Z_iload dX12_write_71 rfl ?_
            refine Z_iconst dX12_write_73 ?_
            refine Z_icmp_ne (tgt := 84) dX12_write_74 (by decide) g9 ⟨by decide, by decide⟩ (fun c => ?_) (fun c => ?_)
            · replace h := h.1 c
              refine Z_iload dX12_write_84 rfl ?_
              refine Z_iconst dX12_write_86 ?_
              refine Z_icmp_ne (tgt := 96) dX12_write_87 (by decide) g9 ⟨by decide, by decide⟩ (fun c => ?_) (fun c => ?_)
              · replace h := h.1 c
                refine Z_lload_n 3 dX12_write_96 rfl rfl ?_
                obtain ⟨g10, h⟩ := h
                obtain ⟨g11, h⟩ := h
                refine Z_last dX12_write_97 la_215 (z_leN la_215 (by decide)) g10 g11 ?_
                refine Z_iconst dX12_write_98 ?_
                exact Z_ireturn dX12_write_99 rfl rfl ⟨rfl, h⟩
              · replace h := h.2 c
                refine Z_lload_n 3 dX12_write_90 rfl rfl ?_
                refine Z_l2i dX12_write_91 ?_
                obtain ⟨g12, h⟩ := h
                refine Z_i2l dX12_write_92 g12 ?_
                refine Z_goto (tgt := 97) dX12_write_93 (by decide) ?_
                obtain ⟨g13, h⟩ := h
                obtain ⟨g14, h⟩ := h
                refine Z_last dX12_write_97 la_215 (z_leN la_215 (by decide)) g13 g14 ?_
                refine Z_iconst dX12_write_98 ?_
                exact Z_ireturn dX12_write_99 rfl rfl ⟨rfl, h⟩
            · replace h := h.2 c
              refine Z_lload_n 3 dX12_write_77 rfl rfl ?_
              refine Z_l2i dX12_write_78 ?_
              refine Z_i2s dX12_write_79 ?_
              obtain ⟨g15, h⟩ := h
              refine Z_i2l dX12_write_80 g15 ?_
              refine Z_goto (tgt := 97) dX12_write_81 (by decide) ?_
              obtain ⟨g16, h⟩ := h
              obtain ⟨g17, h⟩ := h
              refine Z_last dX12_write_97 la_215 (z_leN la_215 (by decide)) g16 g17 ?_
              refine Z_iconst dX12_write_98 ?_
              exact Z_ireturn dX12_write_99 rfl rfl ⟨rfl, h⟩
          · replace h := h.2 c
            refine Z_lload_n 3 dX12_write_64 rfl rfl ?_
            refine Z_l2i dX12_write_65 ?_
            refine Z_i2b dX12_write_66 ?_
            obtain ⟨g18, h⟩ := h
            refine Z_i2l dX12_write_67 g18 ?_
            refine Z_goto (tgt := 97) dX12_write_68 (by decide) ?_
            obtain ⟨g19, h⟩ := h
            obtain ⟨g20, h⟩ := h
            refine Z_last dX12_write_97 la_215 (z_leN la_215 (by decide)) g19 g20 ?_
            refine Z_iconst dX12_write_98 ?_
            exact Z_ireturn dX12_write_99 rfl rfl ⟨rfl, h⟩
        · replace h := h.2 c
          refine Z_bipush dX12_write_38 (by decide) ?_
          exact Z_ireturn dX12_write_40 rfl rfl ⟨rfl, h⟩
    · replace h := h.2 c
      refine Z_bipush dX12_write_19 (by decide) ?_
      exact Z_ireturn dX12_write_21 rfl rfl ⟨rfl, h⟩
  · replace h := h.2 c
    refine Z_bipush dX12_write_7 (by decide) ?_
    exact Z_ireturn dX12_write_9 rfl rfl ⟨rfl, h⟩
theorem bk_X12_cell {X : ZS} {σ : ZM} {T : Int → ZM → Prop} {x1 : Int} {x2 : Int} (h : T ((20 + (10 * x1)) + x2) σ) : ZC X (rX12_cell zN) mX12_cell [(2, 211), (0, x1), (0, x2)] zN σ (zQi T) := by
  show Z X _ _ 0 [(2, 211), (0, x1), (0, x2)] [] _ σ _
  refine Z_bipush dX12_cell_0 (by decide) ?_
  refine Z_bipush dX12_cell_2 (by decide) ?_
  refine Z_iload_n 1 dX12_cell_4 rfl rfl ?_
  refine Z_imul dX12_cell_5 ?_
  refine Z_iadd dX12_cell_6 ?_
  refine Z_iload_n 2 dX12_cell_7 rfl rfl ?_
  refine Z_iadd dX12_cell_8 ?_
  exact Z_ireturn dX12_cell_9 rfl rfl ⟨rfl, h⟩
theorem bk_X12_clear {X : ZS} {σ : ZM} {T : ZM → Prop} {x1 : Int} (h : ZC X (rX12_set zN) mX12_set [(2, 211), (0, 8), (1, 1)] zN (z_up (z_up σ 211 19 0) 211 20 0) (zQv (fun σ2 => Z X (rX12_clear zN) mX12_clear 19 [(2, 211), (0, x1), (0, 0), (9, 0), (9, 0)] [] zN σ2 (zQv T)))) : ZC X (rX12_clear zN) mX12_clear [(2, 211), (0, x1)] zN σ (zQv T) := by
  show Z X _ _ 0 [(2, 211), (0, x1), (9, 0), (9, 0), (9, 0)] [] _ σ _
  refine Z_aload_n 0 dX12_clear_0 rfl rfl ?_
  refine Z_iconst dX12_clear_1 ?_
  refine Z_put (T := TX12) (N := 30) (ci := 12) (t := 0) tyX12 19 dX12_clear_2 la_211 (z_leN la_211 (by decide)) rfl (by decide) inX12 (by decide) (plX12_144 rfl) rfl tyX12_ok nmX12 rfl (z_nf_i _) ?_
  refine Z_aload_n 0 dX12_clear_5 rfl rfl ?_
  refine Z_iconst dX12_clear_6 ?_
  refine Z_put (T := TX12) (N := 30) (ci := 12) (t := 0) tyX12 20 dX12_clear_7 la_211 (z_leN la_211 (by decide)) rfl (by decide) inX12 (by decide) (plX12_147 rfl) rfl tyX12_ok nmX12 rfl (z_nf_i _) ?_
  refine Z_aload_n 0 dX12_clear_10 rfl rfl ?_
  refine Z_bipush dX12_clear_11 (by decide) ?_
  refine Z_lconst (x := 1) dX12_clear_13 rfl ?_
  refine Z_invV (T := TX12) (N := 30) (ci := 12) (M' := mX12_set) (ρ' := rX12_set zN) (st := []) [(0, 8), (1, 1)] dX12_clear_14 rfl rfl la_211 (z_leN la_211 (by decide)) (by decide) rfl rfl (kX12_set.cl (Nat.le_of_ble_eq_true rfl) (Nat.le_refl _) (Nat.le_refl _) (Nat.le_of_ble_eq_true rfl) (Nat.le_of_ble_eq_true rfl) (Nat.le_of_ble_eq_true rfl)) (mlX12_73 rfl) iX12_set sX12_set h (z_kv (fun σ2 h => ?_))
  refine Z_iconst dX12_clear_17 ?_
  refine Z_istore_n (L' := [(2, 211), (0, x1), (0, 0), (9, 0), (9, 0)]) 2 dX12_clear_18 rfl (Nat.le_of_ble_eq_true rfl) rfl ?_
  exact Z_few (z_few_k (z_few_k (z_few_k (z_few_k (z_few_k z_few_0))))) h
theorem bk_X12_clear_19 {X : ZS} {σ : ZM} {T : ZM → Prop} {x1 : Int} {x2 : Int} (h : (r32 x2) ∧ (r32 x1) ∧ ((x1 ≤ x2) → T σ) ∧ ((¬ (x1 ≤ x2)) → (Fix σ) ∧ (0 ≤ x2) ∧ (x2 < 10) ∧ Z X (rX12_clear zN) mX12_clear 36 [(2, 211), (0, x1), (0, x2), (0, (σ 211 19)), (9, 0)] [] zN (z_up σ 224 x2 (-1)) (zQv T))) : Z X (rX12_clear zN) mX12_clear 19 [(2, 211), (0, x1), (0, x2), (9, 0), (9, 0)] [] zN σ (zQv T) := by
  refine Z_iload_n 2 dX12_clear_19 rfl rfl ?_
  refine Z_iload_n 1 dX12_clear_20 rfl rfl ?_
  obtain ⟨g1, h⟩ := h
  obtain ⟨g2, h⟩ := h
  refine Z_icmp_ge (tgt := 247) dX12_clear_21 (by decide) g1 g2 (fun c => ?_) (fun c => ?_)
  · replace h := h.1 c
    exact Z_return dX12_clear_247 rfl rfl ⟨rfl, h⟩
  · replace h := h.2 c
    refine Z_aload_n 0 dX12_clear_24 rfl rfl ?_
    obtain ⟨g3, h⟩ := h
    refine Z_get (T := TX12) (N := 30) (ci := 12) (t := 2) 21 dX12_clear_25 la_211 (z_leN la_211 (by decide)) rfl (by decide) inX12 (by decide) (flX12_54 rfl) rfl ?_
    refine Z_top (y := 224) ((Fix.get g3 la_211 21 13 (by decide +kernel)).trans (by clear h; omega)) ?_
    refine Z_iload_n 2 dX12_clear_28 rfl rfl ?_
    refine Z_iconst dX12_clear_29 ?_
    obtain ⟨g4, h⟩ := h
    obtain ⟨g5, h⟩ := h
    refine Z_iast dX12_clear_30 la_224 (z_leN la_224 (by decide)) g4 g5 ?_
    refine Z_aload_n 0 dX12_clear_31 rfl rfl ?_
    refine Z_get (T := TX12) (N := 30) (ci := 12) (t := 0) 19 dX12_clear_32 la_211 (z_leN la_211 (by decide)) rfl (by decide) inX12 (by decide) (flX12_144 rfl) rfl ?_
    refine Z_top (z_up_ne _ (Or.inl (by decide))) ?_
    refine Z_istore_n (L' := [(2, 211), (0, x1), (0, x2), (0, (σ 211 19)), (9, 0)]) 3 dX12_clear_35 rfl (Nat.le_of_ble_eq_true rfl) rfl ?_
    exact Z_few (z_few_k (z_few_k (z_few_k (z_few_k (z_few_k z_few_0))))) h
theorem bk_X12_clear_36 {X : ZS} {σ : ZM} {T : ZM → Prop} {x1 : Int} {x2 : Int} {x3 : Int} (h : (r32 x3) ∧ (r32 (σ 211 17)) ∧ (((σ 211 17) ≤ x3) → ((¬ x3 = (σ 211 17)) → (r32 (σ 211 19)) ∧ ((¬ x3 = (σ 211 19)) → Z X (rX12_clear zN) mX12_clear 99 [(2, 211), (0, x1), (0, x2), (0, x3), (0, 0)] [] zN (z_up σ 211 20 ((σ 211 20) + 1)) (zQv T)) ∧ ((x3 = (σ 211 19)) → Z X (rX12_clear zN) mX12_clear 99 [(2, 211), (0, x1), (0, x2), (0, x3), (0, 0)] [] zN (z_up σ 211 20 ((σ 211 20) + 0)) (zQv T))) ∧ ((x3 = (σ 211 17)) → Z X (rX12_clear zN) mX12_clear 19 [(2, 211), (0, x1), (0, (x2 + 1)), (9, 0), (9, 0)] [] zN σ (zQv T))) ∧ ((¬ ((σ 211 17) ≤ x3)) → ZC X (rX12_cell zN) mX12_cell [(2, 211), (0, x3), (0, x2)] zN σ (zQi (fun r4 σ5 => ZC X (rX12_isZero zN) mX12_isZero [(2, 211), (0, r4)] zN σ5 (zQz (fun r6 σ7 => ((r6 = false) → (r32 (σ7 211 17)) ∧ ((¬ x3 = (σ7 211 17)) → (r32 (σ7 211 19)) ∧ ((¬ x3 = (σ7 211 19)) → Z X (rX12_clear zN) mX12_clear 99 [(2, 211), (0, x1), (0, x2), (0, x3), (0, 0)] [] zN (z_up σ7 211 20 ((σ7 211 20) + 1)) (zQv T)) ∧ ((x3 = (σ7 211 19)) → Z X (rX12_clear zN) mX12_clear 99 [(2, 211), (0, x1), (0, x2), (0, x3), (0, 0)] [] zN (z_up σ7 211 20 ((σ7 211 20) + 0)) (zQv T))) ∧ ((x3 = (σ7 211 17)) → Z X (rX12_clear zN) mX12_clear 19 [(2, 211), (0, x1), (0, (x2 + 1)), (9, 0), (9, 0)] [] zN σ7 (zQv T))) ∧ ((r6 = true) → Z X (rX12_clear zN) mX12_clear 36 [(2, 211), (0, x1), (0, x2), (0, (x3 + 1)), (9, 0)] [] zN σ7 (zQv T)))))))) : Z X (rX12_clear zN) mX12_clear 36 [(2, 211), (0, x1), (0, x2), (0, x3), (9, 0)] [] zN σ (zQv T) := by
  refine Z_iload_n 3 dX12_clear_36 rfl rfl ?_
  refine Z_aload_n 0 dX12_clear_37 rfl rfl ?_
  refine Z_get (T := TX12) (N := 30) (ci := 12) (t := 0) 17 dX12_clear_38 la_211 (z_leN la_211 (by decide)) rfl (by decide) inX12 (by decide) (flX12_150 rfl) rfl ?_
  obtain ⟨g1, h⟩ := h
  obtain ⟨g2, h⟩ := h
  refine Z_icmp_ge (tgt := 63) dX12_clear_41 (by decide) g1 g2 (fun c => ?_) (fun c => ?_)
  · replace h := h.1 c
    refine Z_iload_n 3 dX12_clear_63 rfl rfl ?_
    refine Z_aload_n 0 dX12_clear_64 rfl rfl ?_
    refine Z_get (T := TX12) (N := 30) (ci := 12) (t := 0) 17 dX12_clear_65 la_211 (z_leN la_211 (by decide)) rfl (by decide) inX12 (by decide) (flX12_150 rfl) rfl ?_
    refine Z_icmp_ne (tgt := 74) dX12_clear_68 (by decide) g1 g2 (fun c => ?_) (fun c => ?_)
    · replace h := h.1 c
      refine Z_aload_n 0 dX12_clear_74 rfl rfl ?_
      refine Z_dup dX12_clear_75 (by simp) ?_
      refine Z_get (T := TX12) (N := 30) (ci := 12) (t := 0) 20 dX12_clear_76 la_211 (z_leN la_211 (by decide)) rfl (by decide) inX12 (by decide) (flX12_147 rfl) rfl ?_
      refine Z_iload_n 3 dX12_clear_79 rfl rfl ?_
      refine Z_aload_n 0 dX12_clear_80 rfl rfl ?_
      refine Z_get (T := TX12) (N := 30) (ci := 12) (t := 0) 19 dX12_clear_81 la_211 (z_leN la_211 (by decide)) rfl (by decide) inX12 (by decide) (flX12_144 rfl) rfl ?_
      obtain ⟨g3, h⟩ := h
      refine Z_icmp_ne (tgt := 91) dX12_clear_84 (by decide) g1 g3 (fun c => ?_) (fun c => ?_)
      · replace h := h.1 c
        refine Z_iconst dX12_clear_91 ?_
        refine Z_iadd dX12_clear_92 ?_
        refine Z_put (T := TX12) (N := 30) (ci := 12) (t := 0) tyX12 20 dX12_clear_93 la_211 (z_leN la_211 (by decide)) rfl (by decide) inX12 (by decide) (plX12_147 rfl) rfl tyX12_ok nmX12 rfl (z_nf_i _) ?_
        refine Z_iconst dX12_clear_96 ?_
        refine Z_istore (L' := [(2, 211), (0, x1), (0, x2), (0, x3), (0, 0)]) dX12_clear_97 (Nat.le_of_ble_eq_true rfl) rfl ?_
        exact Z_few (z_few_k (z_few_k (z_few_k (z_few_k (z_few_k z_few_0))))) h
      · replace h := h.2 c
        refine Z_iconst dX12_clear_87 ?_
        refine Z_goto (tgt := 92) dX12_clear_88 (by decide) ?_
        refine Z_iadd dX12_clear_92 ?_
        refine Z_put (T := TX12) (N := 30) (ci := 12) (t := 0) tyX12 20 dX12_clear_93 la_211 (z_leN la_211 (by decide)) rfl (by decide) inX12 (by decide) (plX12_147 rfl) rfl tyX12_ok nmX12 rfl (z_nf_i _) ?_
        refine Z_iconst dX12_clear_96 ?_
        refine Z_istore (L' := [(2, 211), (0, x1), (0, x2), (0, x3), (0, 0)]) dX12_clear_97 (Nat.le_of_ble_eq_true rfl) rfl ?_
        exact Z_few (z_few_k (z_few_k (z_few_k (z_few_k (z_few_k z_few_0))))) h
    · replace h := h.2 c
      refine Z_goto (tgt := 241) dX12_clear_71 (by decide) ?_
      refine Z_iinc (L' := [(2, 211), (0, x1), (0, (x2 + 1)), (0, x3), (9, 0)]) dX12_clear_241 rfl (Nat.le_of_ble_eq_true rfl) rfl ?_
      refine Z_goto (tgt := 19) dX12_clear_244 (by decide) ?_
      exact Z_few (z_few_k (z_few_k (z_few_k (z_few_d (z_few_k z_few_0))))) h
  · replace h := h.2 c
    refine Z_aload_n 0 dX12_clear_44 rfl rfl ?_
    refine Z_aload_n 0 dX12_clear_45 rfl rfl ?_
    refine Z_iload_n 3 dX12_clear_46 rfl rfl ?_
    refine Z_iload_n 2 dX12_clear_47 rfl rfl ?_
    refine Z_invV (T := TX12) (N := 30) (ci := 12) (M' := mX12_cell) (ρ' := rX12_cell zN) (st := [(2, 211)]) [(0, x3), (0, x2)] dX12_clear_48 rfl rfl la_211 (z_leN la_211 (by decide)) (by decide) rfl rfl (kX12_cell.cl (Nat.le_of_ble_eq_true rfl) (Nat.le_refl _) (Nat.le_refl _) (Nat.le_of_ble_eq_true rfl) (Nat.le_of_ble_eq_true rfl) (Nat.le_of_ble_eq_true rfl)) (mlX12_153 rfl) iX12_cell sX12_cell h (z_ki (fun r4 σ5 h => ?_))
    refine Z_invV (T := TX12) (N := 30) (ci := 12) (M' := mX12_isZero) (ρ' := rX12_isZero zN) (st := []) [(0, r4)] dX12_clear_51 rfl rfl la_211 (z_leN la_211 (by decide)) (by decide) rfl rfl (kX12_isZero.cl (Nat.le_of_ble_eq_true rfl) (Nat.le_refl _) (Nat.le_refl _) (Nat.le_of_ble_eq_true rfl) (Nat.le_of_ble_eq_true rfl) (Nat.le_of_ble_eq_true rfl)) (mlX12_92 rfl) iX12_isZero sX12_isZero h (z_kz (fun r6 σ7 h => ?_))
    refine Z_zif_eq (tgt := 63) dX12_clear_54 (by decide) (fun c => ?_) (fun c => ?_)
    · replace h := h.1 c
      refine Z_iload_n 3 dX12_clear_63 rfl rfl ?_
      refine Z_aload_n 0 dX12_clear_64 rfl rfl ?_
      refine Z_get (T := TX12) (N := 30) (ci := 12) (t := 0) 17 dX12_clear_65 la_211 (z_leN la_211 (by decide)) rfl (by decide) inX12 (by decide) (flX12_150 rfl) rfl ?_
      obtain ⟨g8, h⟩ := h
      refine Z_icmp_ne (tgt := 74) dX12_clear_68 (by decide) g1 g8 (fun c => ?_) (fun c => ?_)
      · replace h := h.1 c
        refine Z_aload_n 0 dX12_clear_74 rfl rfl ?_
        refine Z_dup dX12_clear_75 (by simp) ?_
        refine Z_get (T := TX12) (N := 30) (ci := 12) (t := 0) 20 dX12_clear_76 la_211 (z_leN la_211 (by decide)) rfl (by decide) inX12 (by decide) (flX12_147 rfl) rfl ?_
        refine Z_iload_n 3 dX12_clear_79 rfl rfl ?_
        refine Z_aload_n 0 dX12_clear_80 rfl rfl ?_
        refine Z_get (T := TX12) (N := 30) (ci := 12) (t := 0) 19 dX12_clear_81 la_211 (z_leN la_211 (by decide)) rfl (by decide) inX12 (by decide) (flX12_144 rfl) rfl ?_
        obtain ⟨g9, h⟩ := h
        refine Z_icmp_ne (tgt := 91) dX12_clear_84 (by decide) g1 g9 (fun c => ?_) (fun c => ?_)
        · replace h := h.1 c
          refine Z_iconst dX12_clear_91 ?_
          refine Z_iadd dX12_clear_92 ?_
          refine Z_put (T := TX12) (N := 30) (ci := 12) (t := 0) tyX12 20 dX12_clear_93 la_211 (z_leN la_211 (by decide)) rfl (by decide) inX12 (by decide) (plX12_147 rfl) rfl tyX12_ok nmX12 rfl (z_nf_i _) ?_
          refine Z_iconst dX12_clear_96 ?_
          refine Z_istore (L' := [(2, 211), (0, x1), (0, x2), (0, x3), (0, 0)]) dX12_clear_97 (Nat.le_of_ble_eq_true rfl) rfl ?_
          exact Z_few (z_few_k (z_few_k (z_few_k (z_few_k (z_few_k z_few_0))))) h
        · replace h := h.2 c
          refine Z_iconst dX12_clear_87 ?_
          refine Z_goto (tgt := 92) dX12_clear_88 (by decide) ?_
          refine Z_iadd dX12_clear_92 ?_
          refine Z_put (T := TX12) (N := 30) (ci := 12) (t := 0) tyX12 20 dX12_clear_93 la_211 (z_leN la_211 (by decide)) rfl (by decide) inX12 (by decide) (plX12_147 rfl) rfl tyX12_ok nmX12 rfl (z_nf_i _) ?_
          refine Z_iconst dX12_clear_96 ?_
          refine Z_istore (L' := [(2, 211), (0, x1), (0, x2), (0, x3), (0, 0)]) dX12_clear_97 (Nat.le_of_ble_eq_true rfl) rfl ?_
          exact Z_few (z_few_k (z_few_k (z_few_k (z_few_k (z_few_k z_few_0))))) h
      · replace h := h.2 c
        refine Z_goto (tgt := 241) dX12_clear_71 (by decide) ?_
        refine Z_iinc (L' := [(2, 211), (0, x1), (0, (x2 + 1)), (0, x3), (9, 0)]) dX12_clear_241 rfl (Nat.le_of_ble_eq_true rfl) rfl ?_
        refine Z_goto (tgt := 19) dX12_clear_244 (by decide) ?_
        exact Z_few (z_few_k (z_few_k (z_few_k (z_few_d (z_few_k z_few_0))))) h
    · replace h := h.2 c
      refine Z_iinc (L' := [(2, 211), (0, x1), (0, x2), (0, (x3 + 1)), (9, 0)]) dX12_clear_57 rfl (Nat.le_of_ble_eq_true rfl) rfl ?_
      refine Z_goto (tgt := 36) dX12_clear_60 (by decide) ?_
      exact Z_few (z_few_k (z_few_k (z_few_k (z_few_k (z_few_k z_few_0))))) h
theorem bk_X12_clear_99 {X : ZS} {σ : ZM} {T : ZM → Prop} {x1 : Int} {x2 : Int} {x3 : Int} {x4 : Int} (h : (r32 x4) ∧ (r32 (σ 211 18)) ∧ (((σ 211 18) ≤ x4) → Z X (rX12_clear zN) mX12_clear 175 [(2, 211), (0, x1), (0, x2), (9, 0), (0, 0)] [] zN σ (zQv T)) ∧ ((¬ ((σ 211 18) ≤ x4)) → (r32 x3) ∧ (r32 (σ 211 19)) ∧ ((x3 = (σ 211 19)) → Z X (rX12_clear zN) mX12_clear 175 [(2, 211), (0, x1), (0, x2), (9, 0), (0, 0)] [] zN σ (zQv T)) ∧ ((¬ x3 = (σ 211 19)) → ZC X (rX12_cell zN) mX12_cell [(2, 211), (0, x3), (0, x4)] zN σ (zQi (fun r5 σ6 => ZC X (rX12_copy zN) mX12_copy [(2, 211), (0, 9), (0, r5)] zN σ6 (zQv (fun σ8 => ZC X (rX12_cell zN) mX12_cell [(2, 211), (0, x3), (0, x4)] zN σ8 (zQi (fun r9 σ10 => ZC X (rX12_cell zN) mX12_cell [(2, 211), (0, (σ10 211 19)), (0, x4)] zN σ10 (zQi (fun r11 σ12 => ZC X (rX12_copy zN) mX12_copy [(2, 211), (0, r9), (0, r11)] zN σ12 (zQv (fun σ14 => ZC X (rX12_cell zN) mX12_cell [(2, 211), (0, (σ14 211 19)), (0, x4)] zN σ14 (zQi (fun r15 σ16 => ZC X (rX12_copy zN) mX12_copy [(2, 211), (0, r15), (0, 9)] zN σ16 (zQv (fun σ18 => Z X (rX12_clear zN) mX12_clear 99 [(2, 211), (0, x1), (0, x2), (0, x3), (0, (x4 + 1))] [] zN σ18 (zQv T)))))))))))))))))) : Z X (rX12_clear zN) mX12_clear 99 [(2, 211), (0, x1), (0, x2), (0, x3), (0, x4)] [] zN σ (zQv T) := by
  refine Z_iload dX12_clear_99 rfl ?_
  refine Z_aload_n 0 dX12_clear_101 rfl rfl ?_
  refine Z_get (T := TX12) (N := 30) (ci := 12) (t := 0) 18 dX12_clear_102 la_211 (z_leN la_211 (by decide)) rfl (by decide) inX12 (by decide) (flX12_157 rfl) rfl ?_
  obtain ⟨g1, h⟩ := h
  obtain ⟨g2, h⟩ := h
  refine Z_icmp_ge (tgt := 172) dX12_clear_105 (by decide) g1 g2 (fun c => ?_) (fun c => ?_)
  · replace h := h.1 c
    refine Z_iconst dX12_clear_172 ?_
    refine Z_istore (L' := [(2, 211), (0, x1), (0, x2), (0, x3), (0, 0)]) dX12_clear_173 (Nat.le_of_ble_eq_true rfl) rfl ?_
    exact Z_few (z_few_k (z_few_k (z_few_k (z_few_d (z_few_k z_few_0))))) h
  · replace h := h.2 c
    refine Z_iload_n 3 dX12_clear_108 rfl rfl ?_
    refine Z_aload_n 0 dX12_clear_109 rfl rfl ?_
    refine Z_get (T := TX12) (N := 30) (ci := 12) (t := 0) 19 dX12_clear_110 la_211 (z_leN la_211 (by decide)) rfl (by decide) inX12 (by decide) (flX12_144 rfl) rfl ?_
    obtain ⟨g3, h⟩ := h
    obtain ⟨g4, h⟩ := h
    refine Z_icmp_eq (tgt := 172) dX12_clear_113 (by decide) g3 g4 (fun c => ?_) (fun c => ?_)
    · replace h := h.1 c
      refine Z_iconst dX12_clear_172 ?_
      refine Z_istore (L' := [(2, 211), (0, x1), (0, x2), (0, x3), (0, 0)]) dX12_clear_173 (Nat.le_of_ble_eq_true rfl) rfl ?_
      exact Z_few (z_few_k (z_few_k (z_few_k (z_few_d (z_few_k z_few_0))))) h
    · replace h := h.2 c
      refine Z_aload_n 0 dX12_clear_116 rfl rfl ?_
      refine Z_bipush dX12_clear_117 (by decide) ?_
      refine Z_aload_n 0 dX12_clear_119 rfl rfl ?_
      refine Z_iload_n 3 dX12_clear_120 rfl rfl ?_
      refine Z_iload dX12_clear_121 rfl ?_
      refine Z_invV (T := TX12) (N := 30) (ci := 12) (M' := mX12_cell) (ρ' := rX12_cell zN) (st := [(0, 9), (2, 211)]) [(0, x3), (0, x4)] dX12_clear_123 rfl rfl la_211 (z_leN la_211 (by decide)) (by decide) rfl rfl (kX12_cell.cl (Nat.le_of_ble_eq_true rfl) (Nat.le_refl _) (Nat.le_refl _) (Nat.le_of_ble_eq_true rfl) (Nat.le_of_ble_eq_true rfl) (Nat.le_of_ble_eq_true rfl)) (mlX12_153 rfl) iX12_cell sX12_cell h (z_ki (fun r5 σ6 h => ?_))
      refine Z_invV (T := TX12) (N := 30) (ci := 12) (M' := mX12_copy) (ρ' := rX12_copy zN) (st := []) [(0, 9), (0, r5)] dX12_clear_126 rfl rfl la_211 (z_leN la_211 (by decide)) (by decide) rfl rfl (kX12_copy.cl (Nat.le_of_ble_eq_true rfl) (Nat.le_refl _) (Nat.le_refl _) (Nat.le_of_ble_eq_true rfl) (Nat.le_of_ble_eq_true rfl) (Nat.le_of_ble_eq_true rfl)) (mlX12_118 rfl) iX12_copy sX12_copy h (z_kv (fun σ8 h => ?_))
      refine Z_aload_n 0 dX12_clear_129 rfl rfl ?_
      refine Z_aload_n 0 dX12_clear_130 rfl rfl ?_
      refine Z_iload_n 3 dX12_clear_131 rfl rfl ?_
      refine Z_iload dX12_clear_132 rfl ?_
      refine Z_invV (T := TX12) (N := 30) (ci := 12) (M' := mX12_cell) (ρ' := rX12_cell zN) (st := [(2, 211)]) [(0, x3), (0, x4)] dX12_clear_134 rfl rfl la_211 (z_leN la_211 (by decide)) (by decide) rfl rfl (kX12_cell.cl (Nat.le_of_ble_eq_true rfl) (Nat.le_refl _) (Nat.le_refl _) (Nat.le_of_ble_eq_true rfl) (Nat.le_of_ble_eq_true rfl) (Nat.le_of_ble_eq_true rfl)) (mlX12_153 rfl) iX12_cell sX12_cell h (z_ki (fun r9 σ10 h => ?_))
      refine Z_aload_n 0 dX12_clear_137 rfl rfl ?_
      refine Z_aload_n 0 dX12_clear_138 rfl rfl ?_
      refine Z_get (T := TX12) (N := 30) (ci := 12) (t := 0) 19 dX12_clear_139 la_211 (z_leN la_211 (by decide)) rfl (by decide) inX12 (by decide) (flX12_144 rfl) rfl ?_
      refine Z_iload dX12_clear_142 rfl ?_
      refine Z_invV (T := TX12) (N := 30) (ci := 12) (M' := mX12_cell) (ρ' := rX12_cell zN) (st := [(0, r9), (2, 211)]) [(0, (σ10 211 19)), (0, x4)] dX12_clear_144 rfl rfl la_211 (z_leN la_211 (by decide)) (by decide) rfl rfl (kX12_cell.cl (Nat.le_of_ble_eq_true rfl) (Nat.le_refl _) (Nat.le_refl _) (Nat.le_of_ble_eq_true rfl) (Nat.le_of_ble_eq_true rfl) (Nat.le_of_ble_eq_true rfl)) (mlX12_153 rfl) iX12_cell sX12_cell h (z_ki (fun r11 σ12 h => ?_))
      refine Z_invV (T := TX12) (N := 30) (ci := 12) (M' := mX12_copy) (ρ' := rX12_copy zN) (st := []) [(0, r9), (0, r11)] dX12_clear_147 rfl rfl la_211 (z_leN la_211 (by decide)) (by decide) rfl rfl (kX12_copy.cl (Nat.le_of_ble_eq_true rfl) (Nat.le_refl _) (Nat.le_refl _) (Nat.le_of_ble_eq_true rfl) (Nat.le_of_ble_eq_true rfl) (Nat.le_of_ble_eq_true rfl)) (mlX12_118 rfl) iX12_copy sX12_copy h (z_kv (fun σ14 h => ?_))
      refine Z_aload_n 0 dX12_clear_150 rfl rfl ?_
      refine Z_aload_n 0 dX12_clear_151 rfl rfl ?_
      refine Z_aload_n 0 dX12_clear_152 rfl rfl ?_
      refine Z_get (T := TX12) (N := 30) (ci := 12) (t := 0) 19 dX12_clear_153 la_211 (z_leN la_211 (by decide)) rfl (by decide) inX12 (by decide) (flX12_144 rfl) rfl ?_
      refine Z_iload dX12_clear_156 rfl ?_
      refine Z_invV (T := TX12) (N := 30) (ci := 12) (M' := mX12_cell) (ρ' := rX12_cell zN) (st := [(2, 211)]) [(0, (σ14 211 19)), (0, x4)] dX12_clear_158 rfl rfl la_211 (z_leN la_211 (by decide)) (by decide) rfl rfl (kX12_cell.cl (Nat.le_of_ble_eq_true rfl) (Nat.le_refl _) (Nat.le_refl _) (Nat.le_of_ble_eq_true rfl) (Nat.le_of_ble_eq_true rfl) (Nat.le_of_ble_eq_true rfl)) (mlX12_153 rfl) iX12_cell sX12_cell h (z_ki (fun r15 σ16 h => ?_))
      refine Z_bipush dX12_clear_161 (by decide) ?_
      refine Z_invV (T := TX12) (N := 30) (ci := 12) (M' := mX12_copy) (ρ' := rX12_copy zN) (st := []) [(0, r15), (0, 9)] dX12_clear_163 rfl rfl la_211 (z_leN la_211 (by decide)) (by decide) rfl rfl (kX12_copy.cl (Nat.le_of_ble_eq_true rfl) (Nat.le_refl _) (Nat.le_refl _) (Nat.le_of_ble_eq_true rfl) (Nat.le_of_ble_eq_true rfl) (Nat.le_of_ble_eq_true rfl)) (mlX12_118 rfl) iX12_copy sX12_copy h (z_kv (fun σ18 h => ?_))
      refine Z_iinc (L' := [(2, 211), (0, x1), (0, x2), (0, x3), (0, (x4 + 1))]) dX12_clear_166 rfl (Nat.le_of_ble_eq_true rfl) rfl ?_
      refine Z_goto (tgt := 99) dX12_clear_169 (by decide) ?_
      exact Z_few (z_few_k (z_few_k (z_few_k (z_few_k (z_few_k z_few_0))))) h
theorem bk_X12_clear_175 {X : ZS} {σ : ZM} {T : ZM → Prop} {x1 : Int} {x2 : Int} {x4 : Int} (h : (r32 x4) ∧ (r32 (σ 211 17)) ∧ (((σ 211 17) ≤ x4) → ZC X (rX12_cell zN) mX12_cell [(2, 211), (0, (σ 211 19)), (0, x2)] zN σ (zQi (fun r3 σ4 => ZC X (rX12_copy zN) mX12_copy [(2, 211), (0, 8), (0, r3)] zN σ4 (zQv (fun σ6 => (Fix σ6) ∧ (0 ≤ x2) ∧ (x2 < 10) ∧ Z X (rX12_clear zN) mX12_clear 19 [(2, 211), (0, x1), (0, (x2 + 1)), (9, 0), (9, 0)] [] zN (z_up (z_up σ6 224 x2 (σ6 211 19)) 211 19 ((σ6 211 19) + 1)) (zQv T)))))) ∧ ((¬ ((σ 211 17) ≤ x4)) → (r32 (σ 211 19)) ∧ ((x4 = (σ 211 19)) → Z X (rX12_clear zN) mX12_clear 175 [(2, 211), (0, x1), (0, x2), (9, 0), (0, (x4 + 1))] [] zN σ (zQv T)) ∧ ((¬ x4 = (σ 211 19)) → ZC X (rX12_clears zN) mX12_clears [(2, 211), (0, x4), (0, x2)] zN σ (zQv (fun σ12 => Z X (rX12_clear zN) mX12_clear 175 [(2, 211), (0, x1), (0, x2), (9, 0), (0, (x4 + 1))] [] zN σ12 (zQv T)))))) : Z X (rX12_clear zN) mX12_clear 175 [(2, 211), (0, x1), (0, x2), (9, 0), (0, x4)] [] zN σ (zQv T) := by
  refine Z_iload dX12_clear_175 rfl ?_
  refine Z_aload_n 0 dX12_clear_177 rfl rfl ?_
  refine Z_get (T := TX12) (N := 30) (ci := 12) (t := 0) 17 dX12_clear_178 la_211 (z_leN la_211 (by decide)) rfl (by decide) inX12 (by decide) (flX12_150 rfl) rfl ?_
  obtain ⟨g1, h⟩ := h
  obtain ⟨g2, h⟩ := h
  refine Z_icmp_ge (tgt := 206) dX12_clear_181 (by decide) g1 g2 (fun c => ?_) (fun c => ?_)
  · replace h := h.1 c
    refine Z_aload_n 0 dX12_clear_206 rfl rfl ?_
    refine Z_bipush dX12_clear_207 (by decide) ?_
    refine Z_aload_n 0 dX12_clear_209 rfl rfl ?_
    refine Z_aload_n 0 dX12_clear_210 rfl rfl ?_
    refine Z_get (T := TX12) (N := 30) (ci := 12) (t := 0) 19 dX12_clear_211 la_211 (z_leN la_211 (by decide)) rfl (by decide) inX12 (by decide) (flX12_144 rfl) rfl ?_
    refine Z_iload_n 2 dX12_clear_214 rfl rfl ?_
    refine Z_invV (T := TX12) (N := 30) (ci := 12) (M' := mX12_cell) (ρ' := rX12_cell zN) (st := [(0, 8), (2, 211)]) [(0, (σ 211 19)), (0, x2)] dX12_clear_215 rfl rfl la_211 (z_leN la_211 (by decide)) (by decide) rfl rfl (kX12_cell.cl (Nat.le_of_ble_eq_true rfl) (Nat.le_refl _) (Nat.le_refl _) (Nat.le_of_ble_eq_true rfl) (Nat.le_of_ble_eq_true rfl) (Nat.le_of_ble_eq_true rfl)) (mlX12_153 rfl) iX12_cell sX12_cell h (z_ki (fun r3 σ4 h => ?_))
    refine Z_invV (T := TX12) (N := 30) (ci := 12) (M' := mX12_copy) (ρ' := rX12_copy zN) (st := []) [(0, 8), (0, r3)] dX12_clear_218 rfl rfl la_211 (z_leN la_211 (by decide)) (by decide) rfl rfl (kX12_copy.cl (Nat.le_of_ble_eq_true rfl) (Nat.le_refl _) (Nat.le_refl _) (Nat.le_of_ble_eq_true rfl) (Nat.le_of_ble_eq_true rfl) (Nat.le_of_ble_eq_true rfl)) (mlX12_118 rfl) iX12_copy sX12_copy h (z_kv (fun σ6 h => ?_))
    refine Z_aload_n 0 dX12_clear_221 rfl rfl ?_
    obtain ⟨g7, h⟩ := h
    refine Z_get (T := TX12) (N := 30) (ci := 12) (t := 2) 21 dX12_clear_222 la_211 (z_leN la_211 (by decide)) rfl (by decide) inX12 (by decide) (flX12_54 rfl) rfl ?_
    refine Z_top (y := 224) ((Fix.get g7 la_211 21 13 (by decide +kernel)).trans (by clear h; omega)) ?_
    refine Z_iload_n 2 dX12_clear_225 rfl rfl ?_
    refine Z_aload_n 0 dX12_clear_226 rfl rfl ?_
    refine Z_get (T := TX12) (N := 30) (ci := 12) (t := 0) 19 dX12_clear_227 la_211 (z_leN la_211 (by decide)) rfl (by decide) inX12 (by decide) (flX12_144 rfl) rfl ?_
    obtain ⟨g8, h⟩ := h
    obtain ⟨g9, h⟩ := h
    refine Z_iast dX12_clear_230 la_224 (z_leN la_224 (by decide)) g8 g9 ?_
    refine Z_aload_n 0 dX12_clear_231 rfl rfl ?_
    refine Z_dup dX12_clear_232 (by simp) ?_
    refine Z_get (T := TX12) (N := 30) (ci := 12) (t := 0) 19 dX12_clear_233 la_211 (z_leN la_211 (by decide)) rfl (by decide) inX12 (by decide) (flX12_144 rfl) rfl ?_
    refine Z_top (z_up_ne _ (Or.inl (by decide))) ?_
    refine Z_iconst dX12_clear_236 ?_
    refine Z_iadd dX12_clear_237 ?_
    refine Z_put (T := TX12) (N := 30) (ci := 12) (t := 0) tyX12 19 dX12_clear_238 la_211 (z_leN la_211 (by decide)) rfl (by decide) inX12 (by decide) (plX12_144 rfl) rfl tyX12_ok nmX12 rfl (z_nf_i _) ?_
    refine Z_iinc (L' := [(2, 211), (0, x1), (0, (x2 + 1)), (9, 0), (0, x4)]) dX12_clear_241 rfl (Nat.le_of_ble_eq_true rfl) rfl ?_
    refine Z_goto (tgt := 19) dX12_clear_244 (by decide) ?_
    exact Z_few (z_few_k (z_few_k (z_few_k (z_few_k (z_few_d z_few_0))))) h
  · replace h := h.2 c
    refine Z_iload dX12_clear_184 rfl ?_
    refine Z_aload_n 0 dX12_clear_186 rfl rfl ?_
    refine Z_get (T := TX12) (N := 30) (ci := 12) (t := 0) 19 dX12_clear_187 la_211 (z_leN la_211 (by decide)) rfl (by decide) inX12 (by decide) (flX12_144 rfl) rfl ?_
    obtain ⟨g10, h⟩ := h
    refine Z_icmp_eq (tgt := 200) dX12_clear_190 (by decide) g1 g10 (fun c => ?_) (fun c => ?_)
    · replace h := h.1 c
      refine Z_iinc (L' := [(2, 211), (0, x1), (0, x2), (9, 0), (0, (x4 + 1))]) dX12_clear_200 rfl (Nat.le_of_ble_eq_true rfl) rfl ?_
      refine Z_goto (tgt := 175) dX12_clear_203 (by decide) ?_
      exact Z_few (z_few_k (z_few_k (z_few_k (z_few_k (z_few_k z_few_0))))) h
    · replace h := h.2 c
      refine Z_aload_n 0 dX12_clear_193 rfl rfl ?_
      refine Z_iload dX12_clear_194 rfl ?_
      refine Z_iload_n 2 dX12_clear_196 rfl rfl ?_
      refine Z_invV (T := TX12) (N := 30) (ci := 12) (M' := mX12_clears) (ρ' := rX12_clears zN) (st := []) [(0, x4), (0, x2)] dX12_clear_197 rfl rfl la_211 (z_leN la_211 (by decide)) (by decide) rfl rfl (kX12_clears.cl (Nat.le_of_ble_eq_true rfl) (Nat.le_refl _) (Nat.le_refl _) (Nat.le_of_ble_eq_true rfl) (Nat.le_of_ble_eq_true rfl) (Nat.le_of_ble_eq_true rfl)) (mlX12_160 rfl) iX12_clears sX12_clears h (z_kv (fun σ12 h => ?_))
      refine Z_iinc (L' := [(2, 211), (0, x1), (0, x2), (9, 0), (0, (x4 + 1))]) dX12_clear_200 rfl (Nat.le_of_ble_eq_true rfl) rfl ?_
      refine Z_goto (tgt := 175) dX12_clear_203 (by decide) ?_
      exact Z_few (z_few_k (z_few_k (z_few_k (z_few_k (z_few_k z_few_0))))) h
theorem bk_X12_clears {X : ZS} {σ : ZM} {T : ZM → Prop} {x1 : Int} {x2 : Int} (h : ZC X (rX12_cell zN) mX12_cell [(2, 211), (0, x1), (0, x2)] zN σ (zQi (fun r1 σ2 => ZC X (rX12_copy zN) mX12_copy [(2, 211), (0, 10), (0, r1)] zN σ2 (zQv (fun σ4 => Z X (rX12_clears zN) mX12_clears 14 [(2, 211), (0, x1), (0, x2), (0, 0)] [] zN σ4 (zQv T)))))) : ZC X (rX12_clears zN) mX12_clears [(2, 211), (0, x1), (0, x2)] zN σ (zQv T) := by
  show Z X _ _ 0 [(2, 211), (0, x1), (0, x2), (9, 0)] [] _ σ _
  refine Z_aload_n 0 dX12_clears_0 rfl rfl ?_
  refine Z_bipush dX12_clears_1 (by decide) ?_
  refine Z_aload_n 0 dX12_clears_3 rfl rfl ?_
  refine Z_iload_n 1 dX12_clears_4 rfl rfl ?_
  refine Z_iload_n 2 dX12_clears_5 rfl rfl ?_
  refine Z_invV (T := TX12) (N := 30) (ci := 12) (M' := mX12_cell) (ρ' := rX12_cell zN) (st := [(0, 10), (2, 211)]) [(0, x1), (0, x2)] dX12_clears_6 rfl rfl la_211 (z_leN la_211 (by decide)) (by decide) rfl rfl (kX12_cell.cl (Nat.le_of_ble_eq_true rfl) (Nat.le_refl _) (Nat.le_refl _) (Nat.le_of_ble_eq_true rfl) (Nat.le_of_ble_eq_true rfl) (Nat.le_of_ble_eq_true rfl)) (mlX12_153 rfl) iX12_cell sX12_cell h (z_ki (fun r1 σ2 h => ?_))
  refine Z_invV (T := TX12) (N := 30) (ci := 12) (M' := mX12_copy) (ρ' := rX12_copy zN) (st := []) [(0, 10), (0, r1)] dX12_clears_9 rfl rfl la_211 (z_leN la_211 (by decide)) (by decide) rfl rfl (kX12_copy.cl (Nat.le_of_ble_eq_true rfl) (Nat.le_refl _) (Nat.le_refl _) (Nat.le_of_ble_eq_true rfl) (Nat.le_of_ble_eq_true rfl) (Nat.le_of_ble_eq_true rfl)) (mlX12_118 rfl) iX12_copy sX12_copy h (z_kv (fun σ4 h => ?_))
  refine Z_iconst dX12_clears_12 ?_
  refine Z_istore_n (L' := [(2, 211), (0, x1), (0, x2), (0, 0)]) 3 dX12_clears_13 rfl (Nat.le_of_ble_eq_true rfl) rfl ?_
  exact Z_few (z_few_k (z_few_k (z_few_k (z_few_k z_few_0)))) h
theorem bk_X12_clears_14 {X : ZS} {σ : ZM} {T : ZM → Prop} {x1 : Int} {x2 : Int} {x3 : Int} (h : (r32 x3) ∧ (r32 (σ 211 18)) ∧ (((σ 211 18) ≤ x3) → T σ) ∧ ((¬ ((σ 211 18) ≤ x3)) → ZC X (rX12_cell zN) mX12_cell [(2, 211), (0, x1), (0, x3)] zN σ (zQi (fun r3 σ4 => ZC X (rX12_cell zN) mX12_cell [(2, 211), (0, (σ4 211 19)), (0, x2)] zN σ4 (zQi (fun r5 σ6 => ZC X (rX12_times zN) mX12_times [(2, 211), (0, 6), (0, r3), (0, r5)] zN σ6 (zQv (fun σ8 => ZC X (rX12_cell zN) mX12_cell [(2, 211), (0, (σ8 211 19)), (0, x3)] zN σ8 (zQi (fun r9 σ10 => ZC X (rX12_times zN) mX12_times [(2, 211), (0, 7), (0, 10), (0, r9)] zN σ10 (zQv (fun σ12 => ZC X (rX12_more zN) mX12_more [(2, 211), (0, 6), (0, 7), (1, (-1))] zN σ12 (zQv (fun σ14 => ZC X (rX12_parts zN) mX12_parts [(2, 211), (0, 6), (0, 8)] zN σ14 (zQv (fun σ16 => ZC X (rX12_cell zN) mX12_cell [(2, 211), (0, x1), (0, x3)] zN σ16 (zQi (fun r17 σ18 => ZC X (rX12_copy zN) mX12_copy [(2, 211), (0, r17), (0, 6)] zN σ18 (zQv (fun σ20 => Z X (rX12_clears zN) mX12_clears 14 [(2, 211), (0, x1), (0, x2), (0, (x3 + 1))] [] zN σ20 (zQv T))))))))))))))))))))) : Z X (rX12_clears zN) mX12_clears 14 [(2, 211), (0, x1), (0, x2), (0, x3)] [] zN σ (zQv T) := by
  refine Z_iload_n 3 dX12_clears_14 rfl rfl ?_
  refine Z_aload_n 0 dX12_clears_15 rfl rfl ?_
  refine Z_get (T := TX12) (N := 30) (ci := 12) (t := 0) 18 dX12_clears_16 la_211 (z_leN la_211 (by decide)) rfl (by decide) inX12 (by decide) (flX12_157 rfl) rfl ?_
  obtain ⟨g1, h⟩ := h
  obtain ⟨g2, h⟩ := h
  refine Z_icmp_ge (tgt := 97) dX12_clears_19 (by decide) g1 g2 (fun c => ?_) (fun c => ?_)
  · replace h := h.1 c
    exact Z_return dX12_clears_97 rfl rfl ⟨rfl, h⟩
  · replace h := h.2 c
    refine Z_aload_n 0 dX12_clears_22 rfl rfl ?_
    refine Z_bipush dX12_clears_23 (by decide) ?_
    refine Z_aload_n 0 dX12_clears_25 rfl rfl ?_
    refine Z_iload_n 1 dX12_clears_26 rfl rfl ?_
    refine Z_iload_n 3 dX12_clears_27 rfl rfl ?_
    refine Z_invV (T := TX12) (N := 30) (ci := 12) (M' := mX12_cell) (ρ' := rX12_cell zN) (st := [(0, 6), (2, 211)]) [(0, x1), (0, x3)] dX12_clears_28 rfl rfl la_211 (z_leN la_211 (by decide)) (by decide) rfl rfl (kX12_cell.cl (Nat.le_of_ble_eq_true rfl) (Nat.le_refl _) (Nat.le_refl _) (Nat.le_of_ble_eq_true rfl) (Nat.le_of_ble_eq_true rfl) (Nat.le_of_ble_eq_true rfl)) (mlX12_153 rfl) iX12_cell sX12_cell h (z_ki (fun r3 σ4 h => ?_))
    refine Z_aload_n 0 dX12_clears_31 rfl rfl ?_
    refine Z_aload_n 0 dX12_clears_32 rfl rfl ?_
    refine Z_get (T := TX12) (N := 30) (ci := 12) (t := 0) 19 dX12_clears_33 la_211 (z_leN la_211 (by decide)) rfl (by decide) inX12 (by decide) (flX12_144 rfl) rfl ?_
    refine Z_iload_n 2 dX12_clears_36 rfl rfl ?_
    refine Z_invV (T := TX12) (N := 30) (ci := 12) (M' := mX12_cell) (ρ' := rX12_cell zN) (st := [(0, r3), (0, 6), (2, 211)]) [(0, (σ4 211 19)), (0, x2)] dX12_clears_37 rfl rfl la_211 (z_leN la_211 (by decide)) (by decide) rfl rfl (kX12_cell.cl (Nat.le_of_ble_eq_true rfl) (Nat.le_refl _) (Nat.le_refl _) (Nat.le_of_ble_eq_true rfl) (Nat.le_of_ble_eq_true rfl) (Nat.le_of_ble_eq_true rfl)) (mlX12_153 rfl) iX12_cell sX12_cell h (z_ki (fun r5 σ6 h => ?_))
    refine Z_invV (T := TX12) (N := 30) (ci := 12) (M' := mX12_times) (ρ' := rX12_times zN) (st := []) [(0, 6), (0, r3), (0, r5)] dX12_clears_40 rfl rfl la_211 (z_leN la_211 (by decide)) (by decide) rfl rfl (kX12_times.cl (Nat.le_of_ble_eq_true rfl) (Nat.le_refl _) (Nat.le_refl _) (Nat.le_of_ble_eq_true rfl) (Nat.le_of_ble_eq_true rfl) (Nat.le_of_ble_eq_true rfl)) (mlX12_163 rfl) iX12_times sX12_times h (z_kv (fun σ8 h => ?_))
    refine Z_aload_n 0 dX12_clears_43 rfl rfl ?_
    refine Z_bipush dX12_clears_44 (by decide) ?_
    refine Z_bipush dX12_clears_46 (by decide) ?_
    refine Z_aload_n 0 dX12_clears_48 rfl rfl ?_
    refine Z_aload_n 0 dX12_clears_49 rfl rfl ?_
    refine Z_get (T := TX12) (N := 30) (ci := 12) (t := 0) 19 dX12_clears_50 la_211 (z_leN la_211 (by decide)) rfl (by decide) inX12 (by decide) (flX12_144 rfl) rfl ?_
    refine Z_iload_n 3 dX12_clears_53 rfl rfl ?_
    refine Z_invV (T := TX12) (N := 30) (ci := 12) (M' := mX12_cell) (ρ' := rX12_cell zN) (st := [(0, 10), (0, 7), (2, 211)]) [(0, (σ8 211 19)), (0, x3)] dX12_clears_54 rfl rfl la_211 (z_leN la_211 (by decide)) (by decide) rfl rfl (kX12_cell.cl (Nat.le_of_ble_eq_true rfl) (Nat.le_refl _) (Nat.le_refl _) (Nat.le_of_ble_eq_true rfl) (Nat.le_of_ble_eq_true rfl) (Nat.le_of_ble_eq_true rfl)) (mlX12_153 rfl) iX12_cell sX12_cell h (z_ki (fun r9 σ10 h => ?_))
    refine Z_invV (T := TX12) (N := 30) (ci := 12) (M' := mX12_times) (ρ' := rX12_times zN) (st := []) [(0, 7), (0, 10), (0, r9)] dX12_clears_57 rfl rfl la_211 (z_leN la_211 (by decide)) (by decide) rfl rfl (kX12_times.cl (Nat.le_of_ble_eq_true rfl) (Nat.le_refl _) (Nat.le_refl _) (Nat.le_of_ble_eq_true rfl) (Nat.le_of_ble_eq_true rfl) (Nat.le_of_ble_eq_true rfl)) (mlX12_163 rfl) iX12_times sX12_times h (z_kv (fun σ12 h => ?_))
    refine Z_aload_n 0 dX12_clears_60 rfl rfl ?_
    refine Z_bipush dX12_clears_61 (by decide) ?_
    refine Z_bipush dX12_clears_63 (by decide) ?_
    refine Z_ldc2 (x := (-1)) dX12_clears_65 ctX12_132 rfl ?_
    refine Z_invV (T := TX12) (N := 30) (ci := 12) (M' := mX12_more) (ρ' := rX12_more zN) (st := []) [(0, 6), (0, 7), (1, (-1))] dX12_clears_68 rfl rfl la_211 (z_leN la_211 (by decide)) (by decide) rfl rfl (kX12_more.cl (Nat.le_of_ble_eq_true rfl) (Nat.le_refl _) (Nat.le_refl _) (Nat.le_of_ble_eq_true rfl) (Nat.le_of_ble_eq_true rfl) (Nat.le_of_ble_eq_true rfl)) (mlX12_134 rfl) iX12_more sX12_more h (z_kv (fun σ14 h => ?_))
    refine Z_aload_n 0 dX12_clears_71 rfl rfl ?_
    refine Z_bipush dX12_clears_72 (by decide) ?_
    refine Z_bipush dX12_clears_74 (by decide) ?_
    refine Z_invV (T := TX12) (N := 30) (ci := 12) (M' := mX12_parts) (ρ' := rX12_parts zN) (st := []) [(0, 6), (0, 8)] dX12_clears_76 rfl rfl la_211 (z_leN la_211 (by decide)) (by decide) rfl rfl (kX12_parts.cl (Nat.le_of_ble_eq_true rfl) (Nat.le_refl _) (Nat.le_refl _) (Nat.le_of_ble_eq_true rfl) (Nat.le_of_ble_eq_true rfl) (Nat.le_of_ble_eq_true rfl)) (mlX12_138 rfl) iX12_parts sX12_parts h (z_kv (fun σ16 h => ?_))
    refine Z_aload_n 0 dX12_clears_79 rfl rfl ?_
    refine Z_aload_n 0 dX12_clears_80 rfl rfl ?_
    refine Z_iload_n 1 dX12_clears_81 rfl rfl ?_
    refine Z_iload_n 3 dX12_clears_82 rfl rfl ?_
    refine Z_invV (T := TX12) (N := 30) (ci := 12) (M' := mX12_cell) (ρ' := rX12_cell zN) (st := [(2, 211)]) [(0, x1), (0, x3)] dX12_clears_83 rfl rfl la_211 (z_leN la_211 (by decide)) (by decide) rfl rfl (kX12_cell.cl (Nat.le_of_ble_eq_true rfl) (Nat.le_refl _) (Nat.le_refl _) (Nat.le_of_ble_eq_true rfl) (Nat.le_of_ble_eq_true rfl) (Nat.le_of_ble_eq_true rfl)) (mlX12_153 rfl) iX12_cell sX12_cell h (z_ki (fun r17 σ18 h => ?_))
    refine Z_bipush dX12_clears_86 (by decide) ?_
    refine Z_invV (T := TX12) (N := 30) (ci := 12) (M' := mX12_copy) (ρ' := rX12_copy zN) (st := []) [(0, r17), (0, 6)] dX12_clears_88 rfl rfl la_211 (z_leN la_211 (by decide)) (by decide) rfl rfl (kX12_copy.cl (Nat.le_of_ble_eq_true rfl) (Nat.le_refl _) (Nat.le_refl _) (Nat.le_of_ble_eq_true rfl) (Nat.le_of_ble_eq_true rfl) (Nat.le_of_ble_eq_true rfl)) (mlX12_118 rfl) iX12_copy sX12_copy h (z_kv (fun σ20 h => ?_))
    refine Z_iinc (L' := [(2, 211), (0, x1), (0, x2), (0, (x3 + 1))]) dX12_clears_91 rfl (Nat.le_of_ble_eq_true rfl) rfl ?_
    refine Z_goto (tgt := 14) dX12_clears_94 (by decide) ?_
    exact Z_few (z_few_k (z_few_k (z_few_k (z_few_k z_few_0)))) h
theorem bk_X12_isIn {X : ZS} {σ : ZM} {T : Bool → ZM → Prop} {x0 : Int} {x2 : Int} {x4 : Int} (h : (r64 x0) ∧ (r64 x2) ∧ ((x0 < x2) → T false σ) ∧ ((¬ (x0 < x2)) → (r64 x4) ∧ ((x4 < x0) → T false σ) ∧ ((¬ (x4 < x0)) → T true σ))) : ZC X (rX12_isIn zN) mX12_isIn [(1, x0), (1, x2), (1, x4)] zN σ (zQz T) := by
  show Z X _ _ 0 [(1, x0), (9, 0), (1, x2), (9, 0), (1, x4), (9, 0)] [] _ σ _
  refine Z_lload_n 0 dX12_isIn_0 rfl rfl ?_
  refine Z_lload_n 2 dX12_isIn_1 rfl rfl ?_
  obtain ⟨g1, h⟩ := h
  obtain ⟨g2, h⟩ := h
  refine Z_lc_lt (tgt := 17) dX12_isIn_2 dX12_isIn_3 (by decide) g1 g2 (fun c => ?_) (fun c => ?_)
  · replace h := h.1 c
    refine Z_iconst dX12_isIn_17 ?_
    exact Z_zreturn dX12_isIn_18 rfl (Or.inl rfl) rfl ⟨rfl, false, rfl, h⟩
  · replace h := h.2 c
    refine Z_lload_n 0 dX12_isIn_6 rfl rfl ?_
    refine Z_lload dX12_isIn_7 rfl ?_
    obtain ⟨g3, h⟩ := h
    refine Z_lc_gt (tgt := 17) dX12_isIn_9 dX12_isIn_10 (by decide) g1 g3 (fun c => ?_) (fun c => ?_)
    · replace h := h.1 c
      refine Z_iconst dX12_isIn_17 ?_
      exact Z_zreturn dX12_isIn_18 rfl (Or.inl rfl) rfl ⟨rfl, false, rfl, h⟩
    · replace h := h.2 c
      refine Z_iconst dX12_isIn_13 ?_
      refine Z_goto (tgt := 18) dX12_isIn_14 (by decide) ?_
      exact Z_zreturn dX12_isIn_18 rfl (Or.inr rfl) rfl ⟨rfl, true, rfl, h⟩
theorem bk_X12_isSeen {X : ZS} {σ : ZM} {T : Bool → ZM → Prop} {x1 : Int} (h : (r32 x1) ∧ ((x1 < 0) → T false σ) ∧ ((¬ (x1 < 0)) → (r32 (σ 211 4)) ∧ (((σ 211 4) ≤ x1) → T false σ) ∧ ((¬ ((σ 211 4) ≤ x1)) → T true σ))) : ZC X (rX12_isSeen zN) mX12_isSeen [(2, 211), (0, x1)] zN σ (zQz T) := by
  show Z X _ _ 0 [(2, 211), (0, x1)] [] _ σ _
  refine Z_iload_n 1 dX12_isSeen_0 rfl rfl ?_
  obtain ⟨g1, h⟩ := h
  refine Z_if_lt (tgt := 16) dX12_isSeen_1 (by decide) g1 (fun c => ?_) (fun c => ?_)
  · replace h := h.1 c
    refine Z_iconst dX12_isSeen_16 ?_
    exact Z_zreturn dX12_isSeen_17 rfl (Or.inl rfl) rfl ⟨rfl, false, rfl, h⟩
  · replace h := h.2 c
    refine Z_iload_n 1 dX12_isSeen_4 rfl rfl ?_
    refine Z_aload_n 0 dX12_isSeen_5 rfl rfl ?_
    refine Z_get (T := TX12) (N := 30) (ci := 12) (t := 0) 4 dX12_isSeen_6 la_211 (z_leN la_211 (by decide)) rfl (by decide) inX12 (by decide) (flX12_167 rfl) rfl ?_
    obtain ⟨g2, h⟩ := h
    refine Z_icmp_ge (tgt := 16) dX12_isSeen_9 (by decide) g1 g2 (fun c => ?_) (fun c => ?_)
    · replace h := h.1 c
      refine Z_iconst dX12_isSeen_16 ?_
      exact Z_zreturn dX12_isSeen_17 rfl (Or.inl rfl) rfl ⟨rfl, false, rfl, h⟩
    · replace h := h.2 c
      refine Z_iconst dX12_isSeen_12 ?_
      refine Z_goto (tgt := 17) dX12_isSeen_13 (by decide) ?_
      exact Z_zreturn dX12_isSeen_17 rfl (Or.inr rfl) rfl ⟨rfl, true, rfl, h⟩
theorem bk_X12_seen {X : ZS} {σ : ZM} {T : Int → ZM → Prop} {x1 : Int} (h : ZC X (rX12_isSlot zN) mX12_isSlot [(0, x1)] zN σ (zQz (fun r1 σ2 => ((r1 = true) → (Fix σ2) ∧ (0 ≤ x1) ∧ (x1 < 8) ∧ (r32 (σ2 213 x1)) ∧ ((¬ (σ2 213 x1) = 0) → Z X (rX12_seen zN) mX12_seen 36 [(2, 211), (0, x1), (0, ((σ2 213 x1) - 1)), (0, 1), (0, 0), (9, 0), (9, 0), (9, 0), (9, 0), (9, 0)] [] zN σ2 (zQi T)) ∧ (((σ2 213 x1) = 0) → T (-5) σ2)) ∧ ((r1 = false) → T (-2) σ2)))) : ZC X (rX12_seen zN) mX12_seen [(2, 211), (0, x1)] zN σ (zQi T) := by
  show Z X _ _ 0 [(2, 211), (0, x1), (9, 0), (9, 0), (9, 0), (9, 0), (9, 0), (9, 0), (9, 0), (9, 0)] [] _ σ _
  refine Z_iload_n 1 dX12_seen_0 rfl rfl ?_
  refine Z_invS (M' := mX12_isSlot) (ρ' := rX12_isSlot zN) (st := []) [(0, x1)] dX12_seen_1 rfl rfl (kX12_isSlot.cl (Nat.le_of_ble_eq_true rfl) (Nat.le_refl _) (Nat.le_refl _) (Nat.le_of_ble_eq_true rfl) (Nat.le_of_ble_eq_true rfl) (Nat.le_of_ble_eq_true rfl)) (mlX12_141 rfl) sX12_isSlot h (z_kz (fun r1 σ2 h => ?_))
  refine Z_zif_ne (tgt := 10) dX12_seen_4 (by decide) (fun c => ?_) (fun c => ?_)
  · replace h := h.1 c
    refine Z_aload_n 0 dX12_seen_10 rfl rfl ?_
    obtain ⟨g3, h⟩ := h
    refine Z_get (T := TX12) (N := 30) (ci := 12) (t := 2) 1 dX12_seen_11 la_211 (z_leN la_211 (by decide)) rfl (by decide) inX12 (by decide) (flX12_13 rfl) rfl ?_
    refine Z_top (y := 213) ((Fix.get g3 la_211 1 2 (by decide +kernel)).trans (by clear h; omega)) ?_
    refine Z_iload_n 1 dX12_seen_14 rfl rfl ?_
    obtain ⟨g4, h⟩ := h
    obtain ⟨g5, h⟩ := h
    refine Z_iald dX12_seen_15 la_213 (z_leN la_213 (by decide)) g4 g5 ?_
    obtain ⟨g6, h⟩ := h
    refine Z_if_ne (tgt := 22) dX12_seen_16 (by decide) g6 (fun c => ?_) (fun c => ?_)
    · replace h := h.1 c
      refine Z_aload_n 0 dX12_seen_22 rfl rfl ?_
      refine Z_get (T := TX12) (N := 30) (ci := 12) (t := 2) 1 dX12_seen_23 la_211 (z_leN la_211 (by decide)) rfl (by decide) inX12 (by decide) (flX12_13 rfl) rfl ?_
      refine Z_top (y := 213) ((Fix.get g3 la_211 1 2 (by decide +kernel)).trans (by clear h; omega)) ?_
      refine Z_iload_n 1 dX12_seen_26 rfl rfl ?_
      refine Z_iald dX12_seen_27 la_213 (z_leN la_213 (by decide)) g4 g5 ?_
      refine Z_iconst dX12_seen_28 ?_
      refine Z_isub dX12_seen_29 ?_
      refine Z_istore_n (L' := [(2, 211), (0, x1), (0, ((σ2 213 x1) - 1)), (9, 0), (9, 0), (9, 0), (9, 0), (9, 0), (9, 0), (9, 0)]) 2 dX12_seen_30 rfl (Nat.le_of_ble_eq_true rfl) rfl ?_
      refine Z_iconst dX12_seen_31 ?_
      refine Z_istore_n (L' := [(2, 211), (0, x1), (0, ((σ2 213 x1) - 1)), (0, 1), (9, 0), (9, 0), (9, 0), (9, 0), (9, 0), (9, 0)]) 3 dX12_seen_32 rfl (Nat.le_of_ble_eq_true rfl) rfl ?_
      refine Z_iconst dX12_seen_33 ?_
      refine Z_istore (L' := [(2, 211), (0, x1), (0, ((σ2 213 x1) - 1)), (0, 1), (0, 0), (9, 0), (9, 0), (9, 0), (9, 0), (9, 0)]) dX12_seen_34 (Nat.le_of_ble_eq_true rfl) rfl ?_
      exact Z_few (z_few_k (z_few_k (z_few_k (z_few_k (z_few_k (z_few_k (z_few_k (z_few_k (z_few_k (z_few_k z_few_0)))))))))) h
    · replace h := h.2 c
      refine Z_bipush dX12_seen_19 (by decide) ?_
      exact Z_ireturn dX12_seen_21 rfl rfl ⟨rfl, h⟩
  · replace h := h.2 c
    refine Z_bipush dX12_seen_7 (by decide) ?_
    exact Z_ireturn dX12_seen_9 rfl rfl ⟨rfl, h⟩
theorem bk_X12_seen_36 {X : ZS} {σ : ZM} {T : Int → ZM → Prop} {x1 : Int} {x2 : Int} {x3 : Int} {x4 : Int} (h : (r32 x4) ∧ (r32 x3) ∧ ((x3 ≤ x4) → (Fix σ) ∧ Z X (rX12_seen zN) mX12_seen 275 [(2, 211), (9, 0), (9, 0), (9, 0), (0, 0), (9, 0), (9, 0), (9, 0), (9, 0), (9, 0)] [] zN (z_up σ 211 4 (σ 225 0)) (zQi T)) ∧ ((¬ (x3 ≤ x4)) → (r32 x2) ∧ ((x4 < x2) → (Fix σ) ∧ (0 ≤ ((60 * x1) + x4)) ∧ (((60 * x1) + x4) < 480) ∧ ((¬ x4 = 0) → (r32 (x4 - 1)) ∧ Z X (rX12_seen zN) mX12_seen 80 [(2, 211), (0, x1), (0, x2), (0, x3), (0, x4), (1, (σ 215 ((60 * x1) + x4))), (9, 0), (9, 0), (9, 0), (9, 0)] [(0, (Int.tmod (x4 - 1) 4))] zN σ (zQi T)) ∧ ((x4 = 0) → Z X (rX12_seen zN) mX12_seen 80 [(2, 211), (0, x1), (0, x2), (0, x3), (0, x4), (1, (σ 215 ((60 * x1) + x4))), (9, 0), (9, 0), (9, 0), (9, 0)] [(0, 4)] zN σ (zQi T))) ∧ ((¬ (x4 < x2)) → T (-6) σ))) : Z X (rX12_seen zN) mX12_seen 36 [(2, 211), (0, x1), (0, x2), (0, x3), (0, x4), (9, 0), (9, 0), (9, 0), (9, 0), (9, 0)] [] zN σ (zQi T) := by
  refine Z_iload dX12_seen_36 rfl ?_
  refine Z_iload_n 3 dX12_seen_38 rfl rfl ?_
  obtain ⟨g1, h⟩ := h
  obtain ⟨g2, h⟩ := h
  refine Z_icmp_ge (tgt := 262) dX12_seen_39 (by decide) g1 g2 (fun c => ?_) (fun c => ?_)
  · replace h := h.1 c
    refine Z_aload_n 0 dX12_seen_262 rfl rfl ?_
    refine Z_aload_n 0 dX12_seen_263 rfl rfl ?_
    obtain ⟨g3, h⟩ := h
    refine Z_get (T := TX12) (N := 30) (ci := 12) (t := 2) 22 dX12_seen_264 la_211 (z_leN la_211 (by decide)) rfl (by decide) inX12 (by decide) (flX12_57 rfl) rfl ?_
    refine Z_top (y := 225) ((Fix.get g3 la_211 22 14 (by decide +kernel)).trans (by clear h; omega)) ?_
    refine Z_iconst dX12_seen_267 ?_
    refine Z_iald dX12_seen_268 la_225 (z_leN la_225 (by decide)) (by decide) (by decide) ?_
    refine Z_put (T := TX12) (N := 30) (ci := 12) (t := 0) tyX12 4 dX12_seen_269 la_211 (z_leN la_211 (by decide)) rfl (by decide) inX12 (by decide) (plX12_167 rfl) rfl tyX12_ok nmX12 rfl (z_nf_i _) ?_
    refine Z_iconst dX12_seen_272 ?_
    refine Z_istore (L' := [(2, 211), (0, x1), (0, x2), (0, x3), (0, 0), (9, 0), (9, 0), (9, 0), (9, 0), (9, 0)]) dX12_seen_273 (Nat.le_of_ble_eq_true rfl) rfl ?_
    exact Z_few (z_few_k (z_few_d (z_few_d (z_few_d (z_few_k (z_few_k (z_few_k (z_few_k (z_few_k (z_few_k z_few_0)))))))))) h
  · replace h := h.2 c
    refine Z_iload dX12_seen_42 rfl ?_
    refine Z_iload_n 2 dX12_seen_44 rfl rfl ?_
    obtain ⟨g4, h⟩ := h
    refine Z_icmp_lt (tgt := 51) dX12_seen_45 (by decide) g1 g4 (fun c => ?_) (fun c => ?_)
    · replace h := h.1 c
      refine Z_aload_n 0 dX12_seen_51 rfl rfl ?_
      obtain ⟨g5, h⟩ := h
      refine Z_get (T := TX12) (N := 30) (ci := 12) (t := 2) 3 dX12_seen_52 la_211 (z_leN la_211 (by decide)) rfl (by decide) inX12 (by decide) (flX12_20 rfl) rfl ?_
      refine Z_top (y := 215) ((Fix.get g5 la_211 3 4 (by decide +kernel)).trans (by clear h; omega)) ?_
      refine Z_bipush dX12_seen_55 (by decide) ?_
      refine Z_iload_n 1 dX12_seen_57 rfl rfl ?_
      refine Z_imul dX12_seen_58 ?_
      refine Z_iload dX12_seen_59 rfl ?_
      refine Z_iadd dX12_seen_61 ?_
      obtain ⟨g6, h⟩ := h
      obtain ⟨g7, h⟩ := h
      refine Z_lald dX12_seen_62 la_215 (z_leN la_215 (by decide)) g6 g7 ?_
      refine Z_lstore (L' := [(2, 211), (0, x1), (0, x2), (0, x3), (0, x4), (1, (σ 215 ((60 * x1) + x4))), (9, 0), (9, 0), (9, 0), (9, 0)]) dX12_seen_63 (Nat.le_of_ble_eq_true rfl) rfl ?_
      refine Z_iload dX12_seen_65 rfl ?_
      refine Z_if_ne (tgt := 74) dX12_seen_67 (by decide) g1 (fun c => ?_) (fun c => ?_)
      · replace h := h.1 c
        refine Z_iload dX12_seen_74 rfl ?_
        refine Z_iconst dX12_seen_76 ?_
        refine Z_isub dX12_seen_77 ?_
        refine Z_iconst dX12_seen_78 ?_
        obtain ⟨g8, h⟩ := h
        refine Z_irem dX12_seen_79 g8 ⟨by decide, by decide⟩ (by decide) ?_
        exact Z_few (z_few_k (z_few_k (z_few_k (z_few_k (z_few_k (z_few_k (z_few_k (z_few_k (z_few_k (z_few_k z_few_0)))))))))) h
      · replace h := h.2 c
        refine Z_iconst dX12_seen_70 ?_
        refine Z_goto (tgt := 80) dX12_seen_71 (by decide) ?_
        exact Z_few (z_few_k (z_few_k (z_few_k (z_few_k (z_few_k (z_few_k (z_few_k (z_few_k (z_few_k (z_few_k z_few_0)))))))))) h
    · replace h := h.2 c
      refine Z_bipush dX12_seen_48 (by decide) ?_
      exact Z_ireturn dX12_seen_50 rfl rfl ⟨rfl, h⟩
theorem bk_X12_seen_80 {X : ZS} {σ : ZM} {T : Int → ZM → Prop} {x1 : Int} {x2 : Int} {x3 : Int} {x4 : Int} {x5 : Int} {y0 : Int} (h : (r32 y0) ∧ ((¬ y0 = 4) → ((2 ≤ y0) → ((¬ y0 = 2) → ZC X (rX12_isIn zN) mX12_isIn [(1, x5), (1, 0), (1, 100)] zN σ (zQz (fun r2 σ3 => Z X (rX12_seen zN) mX12_seen 154 [(2, 211), (0, x1), (0, x2), (0, x3), (0, x4), (1, x5), (9, 0), (0, y0), (0, (zb r2)), (0, 1)] [] zN σ3 (zQi T)))) ∧ ((y0 = 2) → ZC X (rX12_isIn zN) mX12_isIn [(1, x5), (1, (-1000)), (1, 1000)] zN σ (zQz (fun r4 σ5 => Z X (rX12_seen zN) mX12_seen 154 [(2, 211), (0, x1), (0, x2), (0, x3), (0, x4), (1, x5), (9, 0), (0, y0), (0, (zb r4)), (0, 1)] [] zN σ5 (zQi T))))) ∧ ((¬ (2 ≤ y0)) → ZC X (rX12_isIn zN) mX12_isIn [(1, x5), (1, (-20)), (1, 20)] zN σ (zQz (fun r6 σ7 => Z X (rX12_seen zN) mX12_seen 154 [(2, 211), (0, x1), (0, x2), (0, x3), (0, x4), (1, x5), (9, 0), (0, y0), (0, (zb r6)), (0, 1)] [] zN σ7 (zQi T))))) ∧ ((y0 = 4) → ZC X (rX12_isIn zN) mX12_isIn [(1, x5), (1, 0), (1, 8)] zN σ (zQz (fun r8 σ9 => Z X (rX12_seen zN) mX12_seen 154 [(2, 211), (0, x1), (0, x2), (0, x3), (0, x4), (1, x5), (9, 0), (0, y0), (0, (zb r8)), (0, 1)] [] zN σ9 (zQi T))))) : Z X (rX12_seen zN) mX12_seen 80 [(2, 211), (0, x1), (0, x2), (0, x3), (0, x4), (1, x5), (9, 0), (9, 0), (9, 0), (9, 0)] [(0, y0)] zN σ (zQi T) := by
  refine Z_istore (L' := [(2, 211), (0, x1), (0, x2), (0, x3), (0, x4), (1, x5), (9, 0), (0, y0), (9, 0), (9, 0)]) dX12_seen_80 (Nat.le_of_ble_eq_true rfl) rfl ?_
  refine Z_iload dX12_seen_82 rfl ?_
  refine Z_iconst dX12_seen_84 ?_
  obtain ⟨g1, h⟩ := h
  refine Z_icmp_ne (tgt := 100) dX12_seen_85 (by decide) g1 ⟨by decide, by decide⟩ (fun c => ?_) (fun c => ?_)
  · replace h := h.1 c
    refine Z_iload dX12_seen_100 rfl ?_
    refine Z_iconst dX12_seen_102 ?_
    refine Z_icmp_ge (tgt := 120) dX12_seen_103 (by decide) g1 ⟨by decide, by decide⟩ (fun c => ?_) (fun c => ?_)
    · replace h := h.1 c
      refine Z_iload dX12_seen_120 rfl ?_
      refine Z_iconst dX12_seen_122 ?_
      refine Z_icmp_ne (tgt := 140) dX12_seen_123 (by decide) g1 ⟨by decide, by decide⟩ (fun c => ?_) (fun c => ?_)
      · replace h := h.1 c
        refine Z_lload dX12_seen_140 rfl ?_
        refine Z_lconst (x := 0) dX12_seen_142 rfl ?_
        refine Z_ldc2 (x := 100) dX12_seen_143 ctX12_184 rfl ?_
        refine Z_invS (M' := mX12_isIn) (ρ' := rX12_isIn zN) (st := []) [(1, x5), (1, 0), (1, 100)] dX12_seen_146 rfl rfl (kX12_isIn.cl (Nat.le_of_ble_eq_true rfl) (Nat.le_refl _) (Nat.le_refl _) (Nat.le_of_ble_eq_true rfl) (Nat.le_of_ble_eq_true rfl) (Nat.le_of_ble_eq_true rfl)) (mlX12_172 rfl) sX12_isIn h (z_kz (fun r2 σ3 h => ?_))
        refine Z_istore (L' := [(2, 211), (0, x1), (0, x2), (0, x3), (0, x4), (1, x5), (9, 0), (0, y0), (0, (zb r2)), (9, 0)]) dX12_seen_149 (Nat.le_of_ble_eq_true rfl) rfl ?_
        refine Z_iconst dX12_seen_151 ?_
        refine Z_istore (L' := [(2, 211), (0, x1), (0, x2), (0, x3), (0, x4), (1, x5), (9, 0), (0, y0), (0, (zb r2)), (0, 1)]) dX12_seen_152 (Nat.le_of_ble_eq_true rfl) rfl ?_
        exact Z_few (z_few_k (z_few_k (z_few_k (z_few_k (z_few_k (z_few_k (z_few_k (z_few_k (z_few_k (z_few_k z_few_0)))))))))) h
      · replace h := h.2 c
        refine Z_lload dX12_seen_126 rfl ?_
        refine Z_ldc2 (x := (-1000)) dX12_seen_128 ctX12_180 rfl ?_
        refine Z_ldc2 (x := 1000) dX12_seen_131 ctX12_182 rfl ?_
        refine Z_invS (M' := mX12_isIn) (ρ' := rX12_isIn zN) (st := []) [(1, x5), (1, (-1000)), (1, 1000)] dX12_seen_134 rfl rfl (kX12_isIn.cl (Nat.le_of_ble_eq_true rfl) (Nat.le_refl _) (Nat.le_refl _) (Nat.le_of_ble_eq_true rfl) (Nat.le_of_ble_eq_true rfl) (Nat.le_of_ble_eq_true rfl)) (mlX12_172 rfl) sX12_isIn h (z_kz (fun r4 σ5 h => ?_))
        refine Z_goto (tgt := 149) dX12_seen_137 (by decide) ?_
        refine Z_istore (L' := [(2, 211), (0, x1), (0, x2), (0, x3), (0, x4), (1, x5), (9, 0), (0, y0), (0, (zb r4)), (9, 0)]) dX12_seen_149 (Nat.le_of_ble_eq_true rfl) rfl ?_
        refine Z_iconst dX12_seen_151 ?_
        refine Z_istore (L' := [(2, 211), (0, x1), (0, x2), (0, x3), (0, x4), (1, x5), (9, 0), (0, y0), (0, (zb r4)), (0, 1)]) dX12_seen_152 (Nat.le_of_ble_eq_true rfl) rfl ?_
        exact Z_few (z_few_k (z_few_k (z_few_k (z_few_k (z_few_k (z_few_k (z_few_k (z_few_k (z_few_k (z_few_k z_few_0)))))))))) h
    · replace h := h.2 c
      refine Z_lload dX12_seen_106 rfl ?_
      refine Z_ldc2 (x := (-20)) dX12_seen_108 ctX12_176 rfl ?_
      refine Z_ldc2 (x := 20) dX12_seen_111 ctX12_178 rfl ?_
      refine Z_invS (M' := mX12_isIn) (ρ' := rX12_isIn zN) (st := []) [(1, x5), (1, (-20)), (1, 20)] dX12_seen_114 rfl rfl (kX12_isIn.cl (Nat.le_of_ble_eq_true rfl) (Nat.le_refl _) (Nat.le_refl _) (Nat.le_of_ble_eq_true rfl) (Nat.le_of_ble_eq_true rfl) (Nat.le_of_ble_eq_true rfl)) (mlX12_172 rfl) sX12_isIn h (z_kz (fun r6 σ7 h => ?_))
      refine Z_goto (tgt := 149) dX12_seen_117 (by decide) ?_
      refine Z_istore (L' := [(2, 211), (0, x1), (0, x2), (0, x3), (0, x4), (1, x5), (9, 0), (0, y0), (0, (zb r6)), (9, 0)]) dX12_seen_149 (Nat.le_of_ble_eq_true rfl) rfl ?_
      refine Z_iconst dX12_seen_151 ?_
      refine Z_istore (L' := [(2, 211), (0, x1), (0, x2), (0, x3), (0, x4), (1, x5), (9, 0), (0, y0), (0, (zb r6)), (0, 1)]) dX12_seen_152 (Nat.le_of_ble_eq_true rfl) rfl ?_
      exact Z_few (z_few_k (z_few_k (z_few_k (z_few_k (z_few_k (z_few_k (z_few_k (z_few_k (z_few_k (z_few_k z_few_0)))))))))) h
  · replace h := h.2 c
    refine Z_lload dX12_seen_88 rfl ?_
    refine Z_lconst (x := 0) dX12_seen_90 rfl ?_
    refine Z_ldc2 (x := 8) dX12_seen_91 ctX12_170 rfl ?_
    refine Z_invS (M' := mX12_isIn) (ρ' := rX12_isIn zN) (st := []) [(1, x5), (1, 0), (1, 8)] dX12_seen_94 rfl rfl (kX12_isIn.cl (Nat.le_of_ble_eq_true rfl) (Nat.le_refl _) (Nat.le_refl _) (Nat.le_of_ble_eq_true rfl) (Nat.le_of_ble_eq_true rfl) (Nat.le_of_ble_eq_true rfl)) (mlX12_172 rfl) sX12_isIn h (z_kz (fun r8 σ9 h => ?_))
    refine Z_goto (tgt := 149) dX12_seen_97 (by decide) ?_
    refine Z_istore (L' := [(2, 211), (0, x1), (0, x2), (0, x3), (0, x4), (1, x5), (9, 0), (0, y0), (0, (zb r8)), (9, 0)]) dX12_seen_149 (Nat.le_of_ble_eq_true rfl) rfl ?_
    refine Z_iconst dX12_seen_151 ?_
    refine Z_istore (L' := [(2, 211), (0, x1), (0, x2), (0, x3), (0, x4), (1, x5), (9, 0), (0, y0), (0, (zb r8)), (0, 1)]) dX12_seen_152 (Nat.le_of_ble_eq_true rfl) rfl ?_
    exact Z_few (z_few_k (z_few_k (z_few_k (z_few_k (z_few_k (z_few_k (z_few_k (z_few_k (z_few_k (z_few_k z_few_0)))))))))) h
theorem bk_X12_seen_154 {X : ZS} {σ : ZM} {T : Int → ZM → Prop} {x1 : Int} {x2 : Int} {x3 : Int} {x4 : Int} {x5 : Int} {x7 : Int} {x8 : Int} {x9 : Int} (h : (r32 x8) ∧ ((x8 = 0) → ((¬ x8 = 0) → (Fix σ) ∧ (0 ≤ x4) ∧ (x4 < 60) ∧ (r32 x4) ∧ ((¬ x4 = 0) → Z X (rX12_seen zN) mX12_seen 36 [(2, 211), (0, x1), (0, x2), (0, x3), (0, (x4 + 1)), (9, 0), (9, 0), (9, 0), (9, 0), (9, 0)] [] zN (z_up σ 225 x4 x5) (zQi T)) ∧ ((x4 = 0) → Z X (rX12_seen zN) mX12_seen 36 [(2, 211), (0, x1), (0, x2), (0, (1 + (4 * ((z_up σ 225 x4 x5) 225 0)))), (0, (x4 + 1)), (9, 0), (9, 0), (9, 0), (9, 0), (9, 0)] [] zN (z_up σ 225 x4 x5) (zQi T))) ∧ ((x8 = 0) → T (-4) σ)) ∧ ((¬ x8 = 0) → (r32 x7) ∧ ((¬ x7 = 1) → ((¬ x8 = 0) → (Fix σ) ∧ (0 ≤ x4) ∧ (x4 < 60) ∧ (r32 x4) ∧ ((¬ x4 = 0) → Z X (rX12_seen zN) mX12_seen 36 [(2, 211), (0, x1), (0, x2), (0, x3), (0, (x4 + 1)), (9, 0), (9, 0), (9, 0), (9, 0), (9, 0)] [] zN (z_up σ 225 x4 x5) (zQi T)) ∧ ((x4 = 0) → Z X (rX12_seen zN) mX12_seen 36 [(2, 211), (0, x1), (0, x2), (0, (1 + (4 * ((z_up σ 225 x4 x5) 225 0)))), (0, (x4 + 1)), (9, 0), (9, 0), (9, 0), (9, 0), (9, 0)] [] zN (z_up σ 225 x4 x5) (zQi T))) ∧ ((x8 = 0) → T (-4) σ)) ∧ ((x7 = 1) → (r32 x9) ∧ (r32 (x4 - 1)) ∧ (((x4 - 1) ≤ x9) → ((¬ x8 = 0) → (Fix σ) ∧ (0 ≤ x4) ∧ (x4 < 60) ∧ (r32 x4) ∧ ((¬ x4 = 0) → Z X (rX12_seen zN) mX12_seen 36 [(2, 211), (0, x1), (0, x2), (0, x3), (0, (x4 + 1)), (9, 0), (9, 0), (9, 0), (9, 0), (9, 0)] [] zN (z_up σ 225 x4 x5) (zQi T)) ∧ ((x4 = 0) → Z X (rX12_seen zN) mX12_seen 36 [(2, 211), (0, x1), (0, x2), (0, (1 + (4 * ((z_up σ 225 x4 x5) 225 0)))), (0, (x4 + 1)), (9, 0), (9, 0), (9, 0), (9, 0), (9, 0)] [] zN (z_up σ 225 x4 x5) (zQi T))) ∧ ((x8 = 0) → T (-4) σ)) ∧ ((¬ ((x4 - 1) ≤ x9)) → (Fix σ) ∧ (0 ≤ x9) ∧ (x9 < 60) ∧ (0 ≤ (x4 - 1)) ∧ ((x4 - 1) < 60) ∧ (r32 (σ 225 x9)) ∧ (r32 (σ 225 (x4 - 1))) ∧ ((¬ (σ 225 x9) = (σ 225 (x4 - 1))) → Z X (rX12_seen zN) mX12_seen 154 [(2, 211), (0, x1), (0, x2), (0, x3), (0, x4), (1, x5), (9, 0), (0, x7), (0, 1), (0, (x9 + 4))] [] zN σ (zQi T)) ∧ (((σ 225 x9) = (σ 225 (x4 - 1))) → (0 ≤ (x9 + 1)) ∧ ((x9 + 1) < 60) ∧ (r32 (σ 225 (x9 + 1))) ∧ (r64 (σ 225 (x9 + 1))) ∧ (r64 x5) ∧ (((σ 225 (x9 + 1)) = x5) → Z X (rX12_seen zN) mX12_seen 154 [(2, 211), (0, x1), (0, x2), (0, x3), (0, x4), (1, x5), (9, 0), (0, x7), (0, 0), (0, (x9 + 4))] [] zN σ (zQi T)) ∧ ((¬ (σ 225 (x9 + 1)) = x5) → Z X (rX12_seen zN) mX12_seen 154 [(2, 211), (0, x1), (0, x2), (0, x3), (0, x4), (1, x5), (9, 0), (0, x7), (0, 1), (0, (x9 + 4))] [] zN σ (zQi T))))))) : Z X (rX12_seen zN) mX12_seen 154 [(2, 211), (0, x1), (0, x2), (0, x3), (0, x4), (1, x5), (9, 0), (0, x7), (0, x8), (0, x9)] [] zN σ (zQi T) := by
  refine Z_iload dX12_seen_154 rfl ?_
  obtain ⟨g1, h⟩ := h
  refine Z_if_eq (tgt := 222) dX12_seen_156 (by decide) g1 (fun c => ?_) (fun c => ?_)
  · replace h := h.1 c
    refine Z_iload dX12_seen_222 rfl ?_
    refine Z_if_ne (tgt := 230) dX12_seen_224 (by decide) g1 (fun c => ?_) (fun c => ?_)
    · replace h := h.1 c
      refine Z_aload_n 0 dX12_seen_230 rfl rfl ?_
      obtain ⟨g2, h⟩ := h
      refine Z_get (T := TX12) (N := 30) (ci := 12) (t := 2) 22 dX12_seen_231 la_211 (z_leN la_211 (by decide)) rfl (by decide) inX12 (by decide) (flX12_57 rfl) rfl ?_
      refine Z_top (y := 225) ((Fix.get g2 la_211 22 14 (by decide +kernel)).trans (by clear h; omega)) ?_
      refine Z_iload dX12_seen_234 rfl ?_
      refine Z_lload dX12_seen_236 rfl ?_
      refine Z_l2i dX12_seen_238 ?_
      obtain ⟨g3, h⟩ := h
      obtain ⟨g4, h⟩ := h
      refine Z_iast dX12_seen_239 la_225 (z_leN la_225 (by decide)) g3 g4 ?_
      refine Z_iload dX12_seen_240 rfl ?_
      obtain ⟨g5, h⟩ := h
      refine Z_if_ne (tgt := 256) dX12_seen_242 (by decide) g5 (fun c => ?_) (fun c => ?_)
      · replace h := h.1 c
        refine Z_iinc (L' := [(2, 211), (0, x1), (0, x2), (0, x3), (0, (x4 + 1)), (1, x5), (9, 0), (0, x7), (0, x8), (0, x9)]) dX12_seen_256 rfl (Nat.le_of_ble_eq_true rfl) rfl ?_
        refine Z_goto (tgt := 36) dX12_seen_259 (by decide) ?_
        exact Z_few (z_few_k (z_few_k (z_few_k (z_few_k (z_few_k (z_few_d (z_few_k (z_few_d (z_few_d (z_few_d z_few_0)))))))))) h
      · replace h := h.2 c
        refine Z_iconst dX12_seen_245 ?_
        refine Z_iconst dX12_seen_246 ?_
        refine Z_aload_n 0 dX12_seen_247 rfl rfl ?_
        refine Z_get (T := TX12) (N := 30) (ci := 12) (t := 2) 22 dX12_seen_248 la_211 (z_leN la_211 (by decide)) rfl (by decide) inX12 (by decide) (flX12_57 rfl) rfl ?_
        refine Z_top (y := 225) ((Fix.get (Fix.upA g2 la_225 (by decide)) la_211 22 14 (by decide +kernel)).trans (by clear h; omega)) ?_
        refine Z_iconst dX12_seen_251 ?_
        refine Z_iald dX12_seen_252 la_225 (z_leN la_225 (by decide)) (by decide) (by decide) ?_
        refine Z_imul dX12_seen_253 ?_
        refine Z_iadd dX12_seen_254 ?_
        refine Z_istore_n (L' := [(2, 211), (0, x1), (0, x2), (0, (1 + (4 * ((z_up σ 225 x4 x5) 225 0)))), (0, x4), (1, x5), (9, 0), (0, x7), (0, x8), (0, x9)]) 3 dX12_seen_255 rfl (Nat.le_of_ble_eq_true rfl) rfl ?_
        refine Z_iinc (L' := [(2, 211), (0, x1), (0, x2), (0, (1 + (4 * ((z_up σ 225 x4 x5) 225 0)))), (0, (x4 + 1)), (1, x5), (9, 0), (0, x7), (0, x8), (0, x9)]) dX12_seen_256 rfl (Nat.le_of_ble_eq_true rfl) rfl ?_
        refine Z_goto (tgt := 36) dX12_seen_259 (by decide) ?_
        exact Z_few (z_few_k (z_few_k (z_few_k (z_few_k (z_few_k (z_few_d (z_few_k (z_few_d (z_few_d (z_few_d z_few_0)))))))))) h
    · replace h := h.2 c
      refine Z_bipush dX12_seen_227 (by decide) ?_
      exact Z_ireturn dX12_seen_229 rfl rfl ⟨rfl, h⟩
  · replace h := h.2 c
    refine Z_iload dX12_seen_159 rfl ?_
    refine Z_iconst dX12_seen_161 ?_
    obtain ⟨g6, h⟩ := h
    refine Z_icmp_ne (tgt := 222) dX12_seen_162 (by decide) g6 ⟨by decide, by decide⟩ (fun c => ?_) (fun c => ?_)
    · replace h := h.1 c
      refine Z_iload dX12_seen_222 rfl ?_
      refine Z_if_ne (tgt := 230) dX12_seen_224 (by decide) g1 (fun c => ?_) (fun c => ?_)
      · replace h := h.1 c
        refine Z_aload_n 0 dX12_seen_230 rfl rfl ?_
        obtain ⟨g7, h⟩ := h
        refine Z_get (T := TX12) (N := 30) (ci := 12) (t := 2) 22 dX12_seen_231 la_211 (z_leN la_211 (by decide)) rfl (by decide) inX12 (by decide) (flX12_57 rfl) rfl ?_
        refine Z_top (y := 225) ((Fix.get g7 la_211 22 14 (by decide +kernel)).trans (by clear h; omega)) ?_
        refine Z_iload dX12_seen_234 rfl ?_
        refine Z_lload dX12_seen_236 rfl ?_
        refine Z_l2i dX12_seen_238 ?_
        obtain ⟨g8, h⟩ := h
        obtain ⟨g9, h⟩ := h
        refine Z_iast dX12_seen_239 la_225 (z_leN la_225 (by decide)) g8 g9 ?_
        refine Z_iload dX12_seen_240 rfl ?_
        obtain ⟨g10, h⟩ := h
        refine Z_if_ne (tgt := 256) dX12_seen_242 (by decide) g10 (fun c => ?_) (fun c => ?_)
        · replace h := h.1 c
          refine Z_iinc (L' := [(2, 211), (0, x1), (0, x2), (0, x3), (0, (x4 + 1)), (1, x5), (9, 0), (0, x7), (0, x8), (0, x9)]) dX12_seen_256 rfl (Nat.le_of_ble_eq_true rfl) rfl ?_
          refine Z_goto (tgt := 36) dX12_seen_259 (by decide) ?_
          exact Z_few (z_few_k (z_few_k (z_few_k (z_few_k (z_few_k (z_few_d (z_few_k (z_few_d (z_few_d (z_few_d z_few_0)))))))))) h
        · replace h := h.2 c
          refine Z_iconst dX12_seen_245 ?_
          refine Z_iconst dX12_seen_246 ?_
          refine Z_aload_n 0 dX12_seen_247 rfl rfl ?_
          refine Z_get (T := TX12) (N := 30) (ci := 12) (t := 2) 22 dX12_seen_248 la_211 (z_leN la_211 (by decide)) rfl (by decide) inX12 (by decide) (flX12_57 rfl) rfl ?_
          refine Z_top (y := 225) ((Fix.get (Fix.upA g7 la_225 (by decide)) la_211 22 14 (by decide +kernel)).trans (by clear h; omega)) ?_
          refine Z_iconst dX12_seen_251 ?_
          refine Z_iald dX12_seen_252 la_225 (z_leN la_225 (by decide)) (by decide) (by decide) ?_
          refine Z_imul dX12_seen_253 ?_
          refine Z_iadd dX12_seen_254 ?_
          refine Z_istore_n (L' := [(2, 211), (0, x1), (0, x2), (0, (1 + (4 * ((z_up σ 225 x4 x5) 225 0)))), (0, x4), (1, x5), (9, 0), (0, x7), (0, x8), (0, x9)]) 3 dX12_seen_255 rfl (Nat.le_of_ble_eq_true rfl) rfl ?_
          refine Z_iinc (L' := [(2, 211), (0, x1), (0, x2), (0, (1 + (4 * ((z_up σ 225 x4 x5) 225 0)))), (0, (x4 + 1)), (1, x5), (9, 0), (0, x7), (0, x8), (0, x9)]) dX12_seen_256 rfl (Nat.le_of_ble_eq_true rfl) rfl ?_
          refine Z_goto (tgt := 36) dX12_seen_259 (by decide) ?_
          exact Z_few (z_few_k (z_few_k (z_few_k (z_few_k (z_few_k (z_few_d (z_few_k (z_few_d (z_few_d (z_few_d z_few_0)))))))))) h
      · replace h := h.2 c
        refine Z_bipush dX12_seen_227 (by decide) ?_
        exact Z_ireturn dX12_seen_229 rfl rfl ⟨rfl, h⟩
    · replace h := h.2 c
      refine Z_iload dX12_seen_165 rfl ?_
      refine Z_iload dX12_seen_167 rfl ?_
      refine Z_iconst dX12_seen_169 ?_
      refine Z_isub dX12_seen_170 ?_
      obtain ⟨g11, h⟩ := h
      obtain ⟨g12, h⟩ := h
      refine Z_icmp_ge (tgt := 222) dX12_seen_171 (by decide) g11 g12 (fun c => ?_) (fun c => ?_)
      · replace h := h.1 c
        refine Z_iload dX12_seen_222 rfl ?_
        refine Z_if_ne (tgt := 230) dX12_seen_224 (by decide) g1 (fun c => ?_) (fun c => ?_)
        · replace h := h.1 c
          refine Z_aload_n 0 dX12_seen_230 rfl rfl ?_
          obtain ⟨g13, h⟩ := h
          refine Z_get (T := TX12) (N := 30) (ci := 12) (t := 2) 22 dX12_seen_231 la_211 (z_leN la_211 (by decide)) rfl (by decide) inX12 (by decide) (flX12_57 rfl) rfl ?_
          refine Z_top (y := 225) ((Fix.get g13 la_211 22 14 (by decide +kernel)).trans (by clear h; omega)) ?_
          refine Z_iload dX12_seen_234 rfl ?_
          refine Z_lload dX12_seen_236 rfl ?_
          refine Z_l2i dX12_seen_238 ?_
          obtain ⟨g14, h⟩ := h
          obtain ⟨g15, h⟩ := h
          refine Z_iast dX12_seen_239 la_225 (z_leN la_225 (by decide)) g14 g15 ?_
          refine Z_iload dX12_seen_240 rfl ?_
          obtain ⟨g16, h⟩ := h
          refine Z_if_ne (tgt := 256) dX12_seen_242 (by decide) g16 (fun c => ?_) (fun c => ?_)
          · replace h := h.1 c
            refine Z_iinc (L' := [(2, 211), (0, x1), (0, x2), (0, x3), (0, (x4 + 1)), (1, x5), (9, 0), (0, x7), (0, x8), (0, x9)]) dX12_seen_256 rfl (Nat.le_of_ble_eq_true rfl) rfl ?_
            refine Z_goto (tgt := 36) dX12_seen_259 (by decide) ?_
            exact Z_few (z_few_k (z_few_k (z_few_k (z_few_k (z_few_k (z_few_d (z_few_k (z_few_d (z_few_d (z_few_d z_few_0)))))))))) h
          · replace h := h.2 c
            refine Z_iconst dX12_seen_245 ?_
            refine Z_iconst dX12_seen_246 ?_
            refine Z_aload_n 0 dX12_seen_247 rfl rfl ?_
            refine Z_get (T := TX12) (N := 30) (ci := 12) (t := 2) 22 dX12_seen_248 la_211 (z_leN la_211 (by decide)) rfl (by decide) inX12 (by decide) (flX12_57 rfl) rfl ?_
            refine Z_top (y := 225) ((Fix.get (Fix.upA g13 la_225 (by decide)) la_211 22 14 (by decide +kernel)).trans (by clear h; omega)) ?_
            refine Z_iconst dX12_seen_251 ?_
            refine Z_iald dX12_seen_252 la_225 (z_leN la_225 (by decide)) (by decide) (by decide) ?_
            refine Z_imul dX12_seen_253 ?_
            refine Z_iadd dX12_seen_254 ?_
            refine Z_istore_n (L' := [(2, 211), (0, x1), (0, x2), (0, (1 + (4 * ((z_up σ 225 x4 x5) 225 0)))), (0, x4), (1, x5), (9, 0), (0, x7), (0, x8), (0, x9)]) 3 dX12_seen_255 rfl (Nat.le_of_ble_eq_true rfl) rfl ?_
            refine Z_iinc (L' := [(2, 211), (0, x1), (0, x2), (0, (1 + (4 * ((z_up σ 225 x4 x5) 225 0)))), (0, (x4 + 1)), (1, x5), (9, 0), (0, x7), (0, x8), (0, x9)]) dX12_seen_256 rfl (Nat.le_of_ble_eq_true rfl) rfl ?_
            refine Z_goto (tgt := 36) dX12_seen_259 (by decide) ?_
            exact Z_few (z_few_k (z_few_k (z_few_k (z_few_k (z_few_k (z_few_d (z_few_k (z_few_d (z_few_d (z_few_d z_few_0)))))))))) h
        · replace h := h.2 c
          refine Z_bipush dX12_seen_227 (by decide) ?_
          exact Z_ireturn dX12_seen_229 rfl rfl ⟨rfl, h⟩
      · replace h := h.2 c
        refine Z_aload_n 0 dX12_seen_174 rfl rfl ?_
        obtain ⟨g17, h⟩ := h
        refine Z_get (T := TX12) (N := 30) (ci := 12) (t := 2) 22 dX12_seen_175 la_211 (z_leN la_211 (by decide)) rfl (by decide) inX12 (by decide) (flX12_57 rfl) rfl ?_
        refine Z_top (y := 225) ((Fix.get g17 la_211 22 14 (by decide +kernel)).trans (by clear h; omega)) ?_
        refine Z_iload dX12_seen_178 rfl ?_
        obtain ⟨g18, h⟩ := h
        obtain ⟨g19, h⟩ := h
        refine Z_iald dX12_seen_180 la_225 (z_leN la_225 (by decide)) g18 g19 ?_
        refine Z_aload_n 0 dX12_seen_181 rfl rfl ?_
        refine Z_get (T := TX12) (N := 30) (ci := 12) (t := 2) 22 dX12_seen_182 la_211 (z_leN la_211 (by decide)) rfl (by decide) inX12 (by decide) (flX12_57 rfl) rfl ?_
        refine Z_top (y := 225) ((Fix.get g17 la_211 22 14 (by decide +kernel)).trans (by clear h; omega)) ?_
        refine Z_iload dX12_seen_185 rfl ?_
        refine Z_iconst dX12_seen_187 ?_
        refine Z_isub dX12_seen_188 ?_
        obtain ⟨g20, h⟩ := h
        obtain ⟨g21, h⟩ := h
        refine Z_iald dX12_seen_189 la_225 (z_leN la_225 (by decide)) g20 g21 ?_
        obtain ⟨g22, h⟩ := h
        obtain ⟨g23, h⟩ := h
        refine Z_icmp_ne (tgt := 209) dX12_seen_190 (by decide) g22 g23 (fun c => ?_) (fun c => ?_)
        · replace h := h.1 c
          refine Z_iconst dX12_seen_209 ?_
          refine Z_goto (tgt := 214) dX12_seen_210 (by decide) ?_
          refine Z_istore (L' := [(2, 211), (0, x1), (0, x2), (0, x3), (0, x4), (1, x5), (9, 0), (0, x7), (0, 1), (0, x9)]) dX12_seen_214 (Nat.le_of_ble_eq_true rfl) rfl ?_
          refine Z_iinc (L' := [(2, 211), (0, x1), (0, x2), (0, x3), (0, x4), (1, x5), (9, 0), (0, x7), (0, 1), (0, (x9 + 4))]) dX12_seen_216 rfl (Nat.le_of_ble_eq_true rfl) rfl ?_
          refine Z_goto (tgt := 154) dX12_seen_219 (by decide) ?_
          exact Z_few (z_few_k (z_few_k (z_few_k (z_few_k (z_few_k (z_few_k (z_few_k (z_few_k (z_few_k (z_few_k z_few_0)))))))))) h
        · replace h := h.2 c
          refine Z_aload_n 0 dX12_seen_193 rfl rfl ?_
          refine Z_get (T := TX12) (N := 30) (ci := 12) (t := 2) 22 dX12_seen_194 la_211 (z_leN la_211 (by decide)) rfl (by decide) inX12 (by decide) (flX12_57 rfl) rfl ?_
          refine Z_top (y := 225) ((Fix.get g17 la_211 22 14 (by decide +kernel)).trans (by clear h; omega)) ?_
          refine Z_iload dX12_seen_197 rfl ?_
          refine Z_iconst dX12_seen_199 ?_
          refine Z_iadd dX12_seen_200 ?_
          obtain ⟨g24, h⟩ := h
          obtain ⟨g25, h⟩ := h
          refine Z_iald dX12_seen_201 la_225 (z_leN la_225 (by decide)) g24 g25 ?_
          obtain ⟨g26, h⟩ := h
          refine Z_i2l dX12_seen_202 g26 ?_
          refine Z_lload dX12_seen_203 rfl ?_
          obtain ⟨g27, h⟩ := h
          obtain ⟨g28, h⟩ := h
          refine Z_lc_eq (tgt := 213) dX12_seen_205 dX12_seen_206 (by decide) g27 g28 (fun c => ?_) (fun c => ?_)
          · replace h := h.1 c
            refine Z_iconst dX12_seen_213 ?_
            refine Z_istore (L' := [(2, 211), (0, x1), (0, x2), (0, x3), (0, x4), (1, x5), (9, 0), (0, x7), (0, 0), (0, x9)]) dX12_seen_214 (Nat.le_of_ble_eq_true rfl) rfl ?_
            refine Z_iinc (L' := [(2, 211), (0, x1), (0, x2), (0, x3), (0, x4), (1, x5), (9, 0), (0, x7), (0, 0), (0, (x9 + 4))]) dX12_seen_216 rfl (Nat.le_of_ble_eq_true rfl) rfl ?_
            refine Z_goto (tgt := 154) dX12_seen_219 (by decide) ?_
            exact Z_few (z_few_k (z_few_k (z_few_k (z_few_k (z_few_k (z_few_k (z_few_k (z_few_k (z_few_k (z_few_k z_few_0)))))))))) h
          · replace h := h.2 c
            refine Z_iconst dX12_seen_209 ?_
            refine Z_goto (tgt := 214) dX12_seen_210 (by decide) ?_
            refine Z_istore (L' := [(2, 211), (0, x1), (0, x2), (0, x3), (0, x4), (1, x5), (9, 0), (0, x7), (0, 1), (0, x9)]) dX12_seen_214 (Nat.le_of_ble_eq_true rfl) rfl ?_
            refine Z_iinc (L' := [(2, 211), (0, x1), (0, x2), (0, x3), (0, x4), (1, x5), (9, 0), (0, x7), (0, 1), (0, (x9 + 4))]) dX12_seen_216 rfl (Nat.le_of_ble_eq_true rfl) rfl ?_
            refine Z_goto (tgt := 154) dX12_seen_219 (by decide) ?_
            exact Z_few (z_few_k (z_few_k (z_few_k (z_few_k (z_few_k (z_few_k (z_few_k (z_few_k (z_few_k (z_few_k z_few_0)))))))))) h
theorem bk_X12_seen_275 {X : ZS} {σ : ZM} {T : Int → ZM → Prop} {x4 : Int} (h : (r32 x4) ∧ (r32 (σ 211 4)) ∧ (((σ 211 4) ≤ x4) → T (σ 211 4) (z_up σ 211 13 0)) ∧ ((¬ ((σ 211 4) ≤ x4)) → (Fix σ) ∧ (0 ≤ (1 + (4 * x4))) ∧ ((1 + (4 * x4)) < 60) ∧ (0 ≤ x4) ∧ (x4 < 8) ∧ (0 ≤ (2 + (4 * x4))) ∧ ((2 + (4 * x4)) < 60) ∧ (0 ≤ (3 + (4 * x4))) ∧ ((3 + (4 * x4)) < 60) ∧ (0 ≤ (4 + (4 * x4))) ∧ ((4 + (4 * x4)) < 60) ∧ Z X (rX12_seen zN) mX12_seen 275 [(2, 211), (9, 0), (9, 0), (9, 0), (0, (x4 + 1)), (9, 0), (9, 0), (9, 0), (9, 0), (9, 0)] [] zN (z_up (z_up (z_up (z_up σ 216 x4 (σ 225 (1 + (4 * x4)))) 217 x4 (σ 225 (2 + (4 * x4)))) 218 x4 (σ 225 (3 + (4 * x4)))) 219 x4 (σ 225 (4 + (4 * x4)))) (zQi T))) : Z X (rX12_seen zN) mX12_seen 275 [(2, 211), (9, 0), (9, 0), (9, 0), (0, x4), (9, 0), (9, 0), (9, 0), (9, 0), (9, 0)] [] zN σ (zQi T) := by
  refine Z_iload dX12_seen_275 rfl ?_
  refine Z_aload_n 0 dX12_seen_277 rfl rfl ?_
  refine Z_get (T := TX12) (N := 30) (ci := 12) (t := 0) 4 dX12_seen_278 la_211 (z_leN la_211 (by decide)) rfl (by decide) inX12 (by decide) (flX12_167 rfl) rfl ?_
  obtain ⟨g1, h⟩ := h
  obtain ⟨g2, h⟩ := h
  refine Z_icmp_ge (tgt := 362) dX12_seen_281 (by decide) g1 g2 (fun c => ?_) (fun c => ?_)
  · replace h := h.1 c
    refine Z_aload_n 0 dX12_seen_362 rfl rfl ?_
    refine Z_iconst dX12_seen_363 ?_
    refine Z_put (T := TX12) (N := 30) (ci := 12) (t := 0) tyX12 13 dX12_seen_364 la_211 (z_leN la_211 (by decide)) rfl (by decide) inX12 (by decide) (plX12_186 rfl) rfl tyX12_ok nmX12 rfl (z_nf_z (Or.inl rfl)) ?_
    refine Z_aload_n 0 dX12_seen_367 rfl rfl ?_
    refine Z_get (T := TX12) (N := 30) (ci := 12) (t := 0) 4 dX12_seen_368 la_211 (z_leN la_211 (by decide)) rfl (by decide) inX12 (by decide) (flX12_167 rfl) rfl ?_
    refine Z_top (z_up_ne _ (Or.inr (by decide))) ?_
    exact Z_ireturn dX12_seen_371 rfl rfl ⟨rfl, h⟩
  · replace h := h.2 c
    refine Z_aload_n 0 dX12_seen_284 rfl rfl ?_
    obtain ⟨g3, h⟩ := h
    refine Z_get (T := TX12) (N := 30) (ci := 12) (t := 2) 5 dX12_seen_285 la_211 (z_leN la_211 (by decide)) rfl (by decide) inX12 (by decide) (flX12_23 rfl) rfl ?_
    refine Z_top (y := 216) ((Fix.get g3 la_211 5 5 (by decide +kernel)).trans (by clear h; omega)) ?_
    refine Z_iload dX12_seen_288 rfl ?_
    refine Z_aload_n 0 dX12_seen_290 rfl rfl ?_
    refine Z_get (T := TX12) (N := 30) (ci := 12) (t := 2) 22 dX12_seen_291 la_211 (z_leN la_211 (by decide)) rfl (by decide) inX12 (by decide) (flX12_57 rfl) rfl ?_
    refine Z_top (y := 225) ((Fix.get g3 la_211 22 14 (by decide +kernel)).trans (by clear h; omega)) ?_
    refine Z_iconst dX12_seen_294 ?_
    refine Z_iconst dX12_seen_295 ?_
    refine Z_iload dX12_seen_296 rfl ?_
    refine Z_imul dX12_seen_298 ?_
    refine Z_iadd dX12_seen_299 ?_
    obtain ⟨g4, h⟩ := h
    obtain ⟨g5, h⟩ := h
    refine Z_iald dX12_seen_300 la_225 (z_leN la_225 (by decide)) g4 g5 ?_
    obtain ⟨g6, h⟩ := h
    obtain ⟨g7, h⟩ := h
    refine Z_iast dX12_seen_301 la_216 (z_leN la_216 (by decide)) g6 g7 ?_
    refine Z_aload_n 0 dX12_seen_302 rfl rfl ?_
    refine Z_get (T := TX12) (N := 30) (ci := 12) (t := 2) 6 dX12_seen_303 la_211 (z_leN la_211 (by decide)) rfl (by decide) inX12 (by decide) (flX12_26 rfl) rfl ?_
    refine Z_top (y := 217) ((Fix.get (Fix.upA g3 la_216 (by decide)) la_211 6 6 (by decide +kernel)).trans (by clear h; omega)) ?_
    refine Z_iload dX12_seen_306 rfl ?_
    refine Z_aload_n 0 dX12_seen_308 rfl rfl ?_
    refine Z_get (T := TX12) (N := 30) (ci := 12) (t := 2) 22 dX12_seen_309 la_211 (z_leN la_211 (by decide)) rfl (by decide) inX12 (by decide) (flX12_57 rfl) rfl ?_
    refine Z_top (y := 225) ((Fix.get (Fix.upA g3 la_216 (by decide)) la_211 22 14 (by decide +kernel)).trans (by clear h; omega)) ?_
    refine Z_iconst dX12_seen_312 ?_
    refine Z_iconst dX12_seen_313 ?_
    refine Z_iload dX12_seen_314 rfl ?_
    refine Z_imul dX12_seen_316 ?_
    refine Z_iadd dX12_seen_317 ?_
    obtain ⟨g8, h⟩ := h
    obtain ⟨g9, h⟩ := h
    refine Z_iald dX12_seen_318 la_225 (z_leN la_225 (by decide)) g8 g9 ?_
    refine Z_top (z_up_ne _ (Or.inl (by decide))) ?_
    refine Z_iast dX12_seen_319 la_217 (z_leN la_217 (by decide)) g6 g7 ?_
    refine Z_aload_n 0 dX12_seen_320 rfl rfl ?_
    refine Z_get (T := TX12) (N := 30) (ci := 12) (t := 2) 7 dX12_seen_321 la_211 (z_leN la_211 (by decide)) rfl (by decide) inX12 (by decide) (flX12_29 rfl) rfl ?_
    refine Z_top (y := 218) ((Fix.get (Fix.upA (Fix.upA g3 la_216 (by decide)) la_217 (by decide)) la_211 7 7 (by decide +kernel)).trans (by clear h; omega)) ?_
    refine Z_iload dX12_seen_324 rfl ?_
    refine Z_aload_n 0 dX12_seen_326 rfl rfl ?_
    refine Z_get (T := TX12) (N := 30) (ci := 12) (t := 2) 22 dX12_seen_327 la_211 (z_leN la_211 (by decide)) rfl (by decide) inX12 (by decide) (flX12_57 rfl) rfl ?_
    refine Z_top (y := 225) ((Fix.get (Fix.upA (Fix.upA g3 la_216 (by decide)) la_217 (by decide)) la_211 22 14 (by decide +kernel)).trans (by clear h; omega)) ?_
    refine Z_iconst dX12_seen_330 ?_
    refine Z_iconst dX12_seen_331 ?_
    refine Z_iload dX12_seen_332 rfl ?_
    refine Z_imul dX12_seen_334 ?_
    refine Z_iadd dX12_seen_335 ?_
    obtain ⟨g10, h⟩ := h
    obtain ⟨g11, h⟩ := h
    refine Z_iald dX12_seen_336 la_225 (z_leN la_225 (by decide)) g10 g11 ?_
    refine Z_top ((z_up_ne _ (Or.inl (by decide))).trans (z_up_ne _ (Or.inl (by decide)))) ?_
    refine Z_iast dX12_seen_337 la_218 (z_leN la_218 (by decide)) g6 g7 ?_
    refine Z_aload_n 0 dX12_seen_338 rfl rfl ?_
    refine Z_get (T := TX12) (N := 30) (ci := 12) (t := 2) 8 dX12_seen_339 la_211 (z_leN la_211 (by decide)) rfl (by decide) inX12 (by decide) (flX12_32 rfl) rfl ?_
    refine Z_top (y := 219) ((Fix.get (Fix.upA (Fix.upA (Fix.upA g3 la_216 (by decide)) la_217 (by decide)) la_218 (by decide)) la_211 8 8 (by decide +kernel)).trans (by clear h; omega)) ?_
    refine Z_iload dX12_seen_342 rfl ?_
    refine Z_aload_n 0 dX12_seen_344 rfl rfl ?_
    refine Z_get (T := TX12) (N := 30) (ci := 12) (t := 2) 22 dX12_seen_345 la_211 (z_leN la_211 (by decide)) rfl (by decide) inX12 (by decide) (flX12_57 rfl) rfl ?_
    refine Z_top (y := 225) ((Fix.get (Fix.upA (Fix.upA (Fix.upA g3 la_216 (by decide)) la_217 (by decide)) la_218 (by decide)) la_211 22 14 (by decide +kernel)).trans (by clear h; omega)) ?_
    refine Z_iconst dX12_seen_348 ?_
    refine Z_iconst dX12_seen_349 ?_
    refine Z_iload dX12_seen_350 rfl ?_
    refine Z_imul dX12_seen_352 ?_
    refine Z_iadd dX12_seen_353 ?_
    obtain ⟨g12, h⟩ := h
    obtain ⟨g13, h⟩ := h
    refine Z_iald dX12_seen_354 la_225 (z_leN la_225 (by decide)) g12 g13 ?_
    refine Z_top ((z_up_ne _ (Or.inl (by decide))).trans ((z_up_ne _ (Or.inl (by decide))).trans (z_up_ne _ (Or.inl (by decide))))) ?_
    refine Z_iast dX12_seen_355 la_219 (z_leN la_219 (by decide)) g6 g7 ?_
    refine Z_iinc (L' := [(2, 211), (9, 0), (9, 0), (9, 0), (0, (x4 + 1)), (9, 0), (9, 0), (9, 0), (9, 0), (9, 0)]) dX12_seen_356 rfl (Nat.le_of_ble_eq_true rfl) rfl ?_
    refine Z_goto (tgt := 275) dX12_seen_359 (by decide) ?_
    exact Z_few (z_few_k (z_few_k (z_few_k (z_few_k (z_few_k (z_few_k (z_few_k (z_few_k (z_few_k (z_few_k z_few_0)))))))))) h
