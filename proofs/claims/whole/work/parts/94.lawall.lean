theorem la_b : z_l ((0 + 1 : Nat) : Int) = (11, 15) := by decide +kernel
theorem la_m : z_l ((((0 + 1) + 209) + 1 : Nat) : Int) = (12, 30) := by decide +kernel
theorem law_all {X : ZS} {σ : ZM} {T : Bool → ZM → Prop} (hX : (X.1 : Int) ≤ 2147483600) (hT : ∀ σ, T true σ) : ZC X (rL_law zN) mL_law [(3, 0)] 0 σ (zQz T) := by
  show Z X _ _ 0 [(3, 0), (9, 0), (9, 0), (9, 0)] [] _ σ _
  refine Z_newO (T := TX11) (N := 15) (ci := 11) tyX11 dL_law_0 rfl (by decide) inX11 tyX11_ok df_11 clL_7 in_X11 iz_X11 la_b (by decide) ?_
  refine Z_dup dL_law_3 (by simp) ?_
  refine Z_invI (M' := mX11_init) (ρ' := rX11_init ((0 + 1) + 209)) (st := [(2, ((0 + 1 : Nat) : Int))]) [] dL_law_4 rfl ((z_l_pos (by rw [la_b]; decide)).1) rfl rfl rfl (kX11_init.cl (Nat.le_of_ble_eq_true rfl) (Nat.le_add_right _ _) (by decide) (Nat.le_of_ble_eq_true rfl) (Nat.le_of_ble_eq_true rfl) (Nat.le_of_ble_eq_true rfl)) (mlL_9 rfl) iX11_init (i_11 (z_new_s _ _) (fun _ b => b)) (z_kv (fun σ5 b5 => ?_))
  refine Z_astore_n (L' := [(3, 0), (2, ((0 + 1 : Nat) : Int)), (9, 0), (9, 0)]) 1 dL_law_7 rfl (Nat.le_of_ble_eq_true rfl) rfl ?_
  refine Z_newO (T := TX12) (N := 30) (ci := 12) tyX12 dL_law_8 rfl (by decide) inX12 tyX12_ok df_12 clL_10 in_X12 iz_X12 la_m (by decide) ?_
  refine Z_dup dL_law_11 (by simp) ?_
  refine Z_invI (M' := mX12_init) (ρ' := rX12_init ((((0 + 1) + 209) + 1) + 18)) (st := [(2, ((((0 + 1) + 209) + 1 : Nat) : Int))]) [] dL_law_12 rfl ((z_l_pos (by rw [la_m]; decide)).1) rfl rfl rfl (kX12_init.cl (Nat.le_of_ble_eq_true rfl) (Nat.le_add_right _ _) (by decide) (Nat.le_of_ble_eq_true rfl) (Nat.le_of_ble_eq_true rfl) (Nat.le_of_ble_eq_true rfl)) (mlL_12 rfl) iX12_init (i_12 (T := fun F => CS F α0 ∧ MS F α0) (b5.fr (fun c _ h => z_new_n _ (show c ≠ (((((0 + 1) + 209) + 1 : Nat) : Int)) by omega))) (z_new_s _ _) (fun _ c m => ⟨c, m⟩)) (z_kv (fun σ11 h => ?_))
  refine Z_astore_n (L' := [(3, 0), (2, ((0 + 1 : Nat) : Int)), (2, ((((0 + 1) + 209) + 1 : Nat) : Int)), (9, 0)]) 2 dL_law_15 rfl (Nat.le_of_ble_eq_true rfl) rfl ?_
  refine Z_iconst dL_law_16 ?_
  refine Z_istore_n (L' := [(3, 0), (2, ((0 + 1 : Nat) : Int)), (2, ((((0 + 1) + 209) + 1 : Nat) : Int)), (0, 0)]) 3 dL_law_17 rfl (Nat.le_of_ble_eq_true rfl) rfl ?_
  exact Z_few (z_few_k (z_few_k (z_few_k (z_few_k z_few_0)))) (law_loop hX hT X.1 0 σ11 α0 (by decide) (by omega) (by omega) ok_0 h.1 h.2)
