theorem bk_X12_see {X : ZS} {σ : ZM} {T : Int → ZM → Prop} {x1 : Int} {x2 : Int} {x3 : Int} {x4 : Int} (h : (r32 x1) ∧ ZC X (rX12_isIn zN) mX12_isIn [(1, x1), (1, (-20)), (1, 20)] zN σ (zQz (fun r2 σ3 => ((r2 = false) → T (-4) σ3) ∧ ((r2 = true) → (r32 x2) ∧ ZC X (rX12_isIn zN) mX12_isIn [(1, x2), (1, (-20)), (1, 20)] zN σ3 (zQz (fun r5 σ6 => ((r5 = false) → T (-4) σ6) ∧ ((r5 = true) → (r32 x3) ∧ ZC X (rX12_isIn zN) mX12_isIn [(1, x3), (1, (-1000)), (1, 1000)] zN σ6 (zQz (fun r8 σ9 => ((r8 = false) → T (-4) σ9) ∧ ((r8 = true) → (r32 x4) ∧ ZC X (rX12_isIn zN) mX12_isIn [(1, x4), (1, 0), (1, 100)] zN σ9 (zQz (fun r11 σ12 => ((r11 = true) → (r32 (σ12 211 4)) ∧ ((¬ (σ12 211 4) = 8) → Z X (rX12_see zN) mX12_see 73 [(2, 211), (0, x1), (0, x2), (0, x3), (0, x4), (0, 0)] [] zN σ12 (zQi T)) ∧ (((σ12 211 4) = 8) → T (-8) σ12)) ∧ ((r11 = false) → T (-4) σ12))))))))))))) : ZC X (rX12_see zN) mX12_see [(2, 211), (0, x1), (0, x2), (0, x3), (0, x4)] zN σ (zQi T) := by
  show Z X _ _ 0 [(2, 211), (0, x1), (0, x2), (0, x3), (0, x4), (9, 0)] [] _ σ _
  refine Z_iload_n 1 dX12_see_0 rfl rfl ?_
  obtain ⟨g1, h⟩ := h
  refine Z_i2l dX12_see_1 g1 ?_
  refine Z_ldc2 (x := (-20)) dX12_see_2 ctX12_176 rfl ?_
  refine Z_ldc2 (x := 20) dX12_see_5 ctX12_178 rfl ?_
  refine Z_invS (M' := mX12_isIn) (ρ' := rX12_isIn zN) (st := []) [(1, x1), (1, (-20)), (1, 20)] dX12_see_8 rfl rfl (kX12_isIn.cl (Nat.le_of_ble_eq_true rfl) (Nat.le_refl _) (Nat.le_refl _) (Nat.le_of_ble_eq_true rfl) (Nat.le_of_ble_eq_true rfl) (Nat.le_of_ble_eq_true rfl)) (mlX12_172 rfl) sX12_isIn h (z_kz (fun r2 σ3 h => ?_))
  refine Z_zif_eq (tgt := 55) dX12_see_11 (by decide) (fun c => ?_) (fun c => ?_)
  · replace h := h.1 c
    refine Z_bipush dX12_see_55 (by decide) ?_
    exact Z_ireturn dX12_see_57 rfl rfl ⟨rfl, h⟩
  · replace h := h.2 c
    refine Z_iload_n 2 dX12_see_14 rfl rfl ?_
    obtain ⟨g4, h⟩ := h
    refine Z_i2l dX12_see_15 g4 ?_
    refine Z_ldc2 (x := (-20)) dX12_see_16 ctX12_176 rfl ?_
    refine Z_ldc2 (x := 20) dX12_see_19 ctX12_178 rfl ?_
    refine Z_invS (M' := mX12_isIn) (ρ' := rX12_isIn zN) (st := []) [(1, x2), (1, (-20)), (1, 20)] dX12_see_22 rfl rfl (kX12_isIn.cl (Nat.le_of_ble_eq_true rfl) (Nat.le_refl _) (Nat.le_refl _) (Nat.le_of_ble_eq_true rfl) (Nat.le_of_ble_eq_true rfl) (Nat.le_of_ble_eq_true rfl)) (mlX12_172 rfl) sX12_isIn h (z_kz (fun r5 σ6 h => ?_))
    refine Z_zif_eq (tgt := 55) dX12_see_25 (by decide) (fun c => ?_) (fun c => ?_)
    · replace h := h.1 c
      refine Z_bipush dX12_see_55 (by decide) ?_
      exact Z_ireturn dX12_see_57 rfl rfl ⟨rfl, h⟩
    · replace h := h.2 c
      refine Z_iload_n 3 dX12_see_28 rfl rfl ?_
      obtain ⟨g7, h⟩ := h
      refine Z_i2l dX12_see_29 g7 ?_
      refine Z_ldc2 (x := (-1000)) dX12_see_30 ctX12_180 rfl ?_
      refine Z_ldc2 (x := 1000) dX12_see_33 ctX12_182 rfl ?_
      refine Z_invS (M' := mX12_isIn) (ρ' := rX12_isIn zN) (st := []) [(1, x3), (1, (-1000)), (1, 1000)] dX12_see_36 rfl rfl (kX12_isIn.cl (Nat.le_of_ble_eq_true rfl) (Nat.le_refl _) (Nat.le_refl _) (Nat.le_of_ble_eq_true rfl) (Nat.le_of_ble_eq_true rfl) (Nat.le_of_ble_eq_true rfl)) (mlX12_172 rfl) sX12_isIn h (z_kz (fun r8 σ9 h => ?_))
      refine Z_zif_eq (tgt := 55) dX12_see_39 (by decide) (fun c => ?_) (fun c => ?_)
      · replace h := h.1 c
        refine Z_bipush dX12_see_55 (by decide) ?_
        exact Z_ireturn dX12_see_57 rfl rfl ⟨rfl, h⟩
      · replace h := h.2 c
        refine Z_iload dX12_see_42 rfl ?_
        obtain ⟨g10, h⟩ := h
        refine Z_i2l dX12_see_44 g10 ?_
        refine Z_lconst (x := 0) dX12_see_45 rfl ?_
        refine Z_ldc2 (x := 100) dX12_see_46 ctX12_184 rfl ?_
        refine Z_invS (M' := mX12_isIn) (ρ' := rX12_isIn zN) (st := []) [(1, x4), (1, 0), (1, 100)] dX12_see_49 rfl rfl (kX12_isIn.cl (Nat.le_of_ble_eq_true rfl) (Nat.le_refl _) (Nat.le_refl _) (Nat.le_of_ble_eq_true rfl) (Nat.le_of_ble_eq_true rfl) (Nat.le_of_ble_eq_true rfl)) (mlX12_172 rfl) sX12_isIn h (z_kz (fun r11 σ12 h => ?_))
        refine Z_zif_ne (tgt := 58) dX12_see_52 (by decide) (fun c => ?_) (fun c => ?_)
        · replace h := h.1 c
          refine Z_aload_n 0 dX12_see_58 rfl rfl ?_
          refine Z_get (T := TX12) (N := 30) (ci := 12) (t := 0) 4 dX12_see_59 la_211 (z_leN la_211 (by decide)) rfl (by decide) inX12 (by decide) (flX12_167 rfl) rfl ?_
          refine Z_bipush dX12_see_62 (by decide) ?_
          obtain ⟨g13, h⟩ := h
          refine Z_icmp_ne (tgt := 70) dX12_see_64 (by decide) g13 ⟨by decide, by decide⟩ (fun c => ?_) (fun c => ?_)
          · replace h := h.1 c
            refine Z_iconst dX12_see_70 ?_
            refine Z_istore (L' := [(2, 211), (0, x1), (0, x2), (0, x3), (0, x4), (0, 0)]) dX12_see_71 (Nat.le_of_ble_eq_true rfl) rfl ?_
            exact Z_few (z_few_k (z_few_k (z_few_k (z_few_k (z_few_k (z_few_k z_few_0)))))) h
          · replace h := h.2 c
            refine Z_bipush dX12_see_67 (by decide) ?_
            exact Z_ireturn dX12_see_69 rfl rfl ⟨rfl, h⟩
        · replace h := h.2 c
          refine Z_bipush dX12_see_55 (by decide) ?_
          exact Z_ireturn dX12_see_57 rfl rfl ⟨rfl, h⟩
theorem bk_X12_see_73 {X : ZS} {σ : ZM} {T : Int → ZM → Prop} {x1 : Int} {x2 : Int} {x3 : Int} {x4 : Int} {x5 : Int} (h : (r32 x5) ∧ (r32 (σ 211 4)) ∧ (((σ 211 4) ≤ x5) → (Fix σ) ∧ (0 ≤ (σ 211 4)) ∧ ((σ 211 4) < 8) ∧ T (((σ 211 4) + 1) - 1) (z_up (z_up (z_up (z_up (z_up (z_up σ 216 (σ 211 4) x1) 217 (σ 211 4) x2) 218 (σ 211 4) x3) 219 (σ 211 4) x4) 211 4 ((σ 211 4) + 1)) 211 13 0)) ∧ ((¬ ((σ 211 4) ≤ x5)) → (Fix σ) ∧ (0 ≤ x5) ∧ (x5 < 8) ∧ (r32 (σ 216 x5)) ∧ (r32 x1) ∧ ((¬ (σ 216 x5) = x1) → Z X (rX12_see zN) mX12_see 73 [(2, 211), (0, x1), (0, x2), (0, x3), (0, x4), (0, (x5 + 1))] [] zN σ (zQi T)) ∧ (((σ 216 x5) = x1) → (r32 (σ 217 x5)) ∧ (r32 x2) ∧ ((¬ (σ 217 x5) = x2) → Z X (rX12_see zN) mX12_see 73 [(2, 211), (0, x1), (0, x2), (0, x3), (0, x4), (0, (x5 + 1))] [] zN σ (zQi T)) ∧ (((σ 217 x5) = x2) → T (-9) σ)))) : Z X (rX12_see zN) mX12_see 73 [(2, 211), (0, x1), (0, x2), (0, x3), (0, x4), (0, x5)] [] zN σ (zQi T) := by
  refine Z_iload dX12_see_73 rfl ?_
  refine Z_aload_n 0 dX12_see_75 rfl rfl ?_
  refine Z_get (T := TX12) (N := 30) (ci := 12) (t := 0) 4 dX12_see_76 la_211 (z_leN la_211 (by decide)) rfl (by decide) inX12 (by decide) (flX12_167 rfl) rfl ?_
  obtain ⟨g1, h⟩ := h
  obtain ⟨g2, h⟩ := h
  refine Z_icmp_ge (tgt := 113) dX12_see_79 (by decide) g1 g2 (fun c => ?_) (fun c => ?_)
  · replace h := h.1 c
    refine Z_aload_n 0 dX12_see_113 rfl rfl ?_
    obtain ⟨g3, h⟩ := h
    refine Z_get (T := TX12) (N := 30) (ci := 12) (t := 2) 5 dX12_see_114 la_211 (z_leN la_211 (by decide)) rfl (by decide) inX12 (by decide) (flX12_23 rfl) rfl ?_
    refine Z_top (y := 216) ((Fix.get g3 la_211 5 5 (by decide +kernel)).trans (by clear h; omega)) ?_
    refine Z_aload_n 0 dX12_see_117 rfl rfl ?_
    refine Z_get (T := TX12) (N := 30) (ci := 12) (t := 0) 4 dX12_see_118 la_211 (z_leN la_211 (by decide)) rfl (by decide) inX12 (by decide) (flX12_167 rfl) rfl ?_
    refine Z_iload_n 1 dX12_see_121 rfl rfl ?_
    obtain ⟨g4, h⟩ := h
    obtain ⟨g5, h⟩ := h
    refine Z_iast dX12_see_122 la_216 (z_leN la_216 (by decide)) g4 g5 ?_
    refine Z_aload_n 0 dX12_see_123 rfl rfl ?_
    refine Z_get (T := TX12) (N := 30) (ci := 12) (t := 2) 6 dX12_see_124 la_211 (z_leN la_211 (by decide)) rfl (by decide) inX12 (by decide) (flX12_26 rfl) rfl ?_
    refine Z_top (y := 217) ((Fix.get (Fix.upA g3 la_216 (by decide)) la_211 6 6 (by decide +kernel)).trans (by clear h; omega)) ?_
    refine Z_aload_n 0 dX12_see_127 rfl rfl ?_
    refine Z_get (T := TX12) (N := 30) (ci := 12) (t := 0) 4 dX12_see_128 la_211 (z_leN la_211 (by decide)) rfl (by decide) inX12 (by decide) (flX12_167 rfl) rfl ?_
    refine Z_top (z_up_ne _ (Or.inl (by decide))) ?_
    refine Z_iload_n 2 dX12_see_131 rfl rfl ?_
    refine Z_iast dX12_see_132 la_217 (z_leN la_217 (by decide)) g4 g5 ?_
    refine Z_aload_n 0 dX12_see_133 rfl rfl ?_
    refine Z_get (T := TX12) (N := 30) (ci := 12) (t := 2) 7 dX12_see_134 la_211 (z_leN la_211 (by decide)) rfl (by decide) inX12 (by decide) (flX12_29 rfl) rfl ?_
    refine Z_top (y := 218) ((Fix.get (Fix.upA (Fix.upA g3 la_216 (by decide)) la_217 (by decide)) la_211 7 7 (by decide +kernel)).trans (by clear h; omega)) ?_
    refine Z_aload_n 0 dX12_see_137 rfl rfl ?_
    refine Z_get (T := TX12) (N := 30) (ci := 12) (t := 0) 4 dX12_see_138 la_211 (z_leN la_211 (by decide)) rfl (by decide) inX12 (by decide) (flX12_167 rfl) rfl ?_
    refine Z_top ((z_up_ne _ (Or.inl (by decide))).trans (z_up_ne _ (Or.inl (by decide)))) ?_
    refine Z_iload_n 3 dX12_see_141 rfl rfl ?_
    refine Z_iast dX12_see_142 la_218 (z_leN la_218 (by decide)) g4 g5 ?_
    refine Z_aload_n 0 dX12_see_143 rfl rfl ?_
    refine Z_get (T := TX12) (N := 30) (ci := 12) (t := 2) 8 dX12_see_144 la_211 (z_leN la_211 (by decide)) rfl (by decide) inX12 (by decide) (flX12_32 rfl) rfl ?_
    refine Z_top (y := 219) ((Fix.get (Fix.upA (Fix.upA (Fix.upA g3 la_216 (by decide)) la_217 (by decide)) la_218 (by decide)) la_211 8 8 (by decide +kernel)).trans (by clear h; omega)) ?_
    refine Z_aload_n 0 dX12_see_147 rfl rfl ?_
    refine Z_get (T := TX12) (N := 30) (ci := 12) (t := 0) 4 dX12_see_148 la_211 (z_leN la_211 (by decide)) rfl (by decide) inX12 (by decide) (flX12_167 rfl) rfl ?_
    refine Z_top ((z_up_ne _ (Or.inl (by decide))).trans ((z_up_ne _ (Or.inl (by decide))).trans (z_up_ne _ (Or.inl (by decide))))) ?_
    refine Z_iload dX12_see_151 rfl ?_
    refine Z_iast dX12_see_153 la_219 (z_leN la_219 (by decide)) g4 g5 ?_
    refine Z_aload_n 0 dX12_see_154 rfl rfl ?_
    refine Z_dup dX12_see_155 (by simp) ?_
    refine Z_get (T := TX12) (N := 30) (ci := 12) (t := 0) 4 dX12_see_156 la_211 (z_leN la_211 (by decide)) rfl (by decide) inX12 (by decide) (flX12_167 rfl) rfl ?_
    refine Z_top ((z_up_ne _ (Or.inl (by decide))).trans ((z_up_ne _ (Or.inl (by decide))).trans ((z_up_ne _ (Or.inl (by decide))).trans (z_up_ne _ (Or.inl (by decide)))))) ?_
    refine Z_iconst dX12_see_159 ?_
    refine Z_iadd dX12_see_160 ?_
    refine Z_put (T := TX12) (N := 30) (ci := 12) (t := 0) tyX12 4 dX12_see_161 la_211 (z_leN la_211 (by decide)) rfl (by decide) inX12 (by decide) (plX12_167 rfl) rfl tyX12_ok nmX12 rfl (z_nf_i _) ?_
    refine Z_aload_n 0 dX12_see_164 rfl rfl ?_
    refine Z_iconst dX12_see_165 ?_
    refine Z_put (T := TX12) (N := 30) (ci := 12) (t := 0) tyX12 13 dX12_see_166 la_211 (z_leN la_211 (by decide)) rfl (by decide) inX12 (by decide) (plX12_186 rfl) rfl tyX12_ok nmX12 rfl (z_nf_z (Or.inl rfl)) ?_
    refine Z_aload_n 0 dX12_see_169 rfl rfl ?_
    refine Z_get (T := TX12) (N := 30) (ci := 12) (t := 0) 4 dX12_see_170 la_211 (z_leN la_211 (by decide)) rfl (by decide) inX12 (by decide) (flX12_167 rfl) rfl ?_
    refine Z_top ((z_up_ne _ (Or.inr (by decide))).trans (z_up_same _ _ _ _)) ?_
    refine Z_iconst dX12_see_173 ?_
    refine Z_isub dX12_see_174 ?_
    exact Z_ireturn dX12_see_175 rfl rfl ⟨rfl, h⟩
  · replace h := h.2 c
    refine Z_aload_n 0 dX12_see_82 rfl rfl ?_
    obtain ⟨g6, h⟩ := h
    refine Z_get (T := TX12) (N := 30) (ci := 12) (t := 2) 5 dX12_see_83 la_211 (z_leN la_211 (by decide)) rfl (by decide) inX12 (by decide) (flX12_23 rfl) rfl ?_
    refine Z_top (y := 216) ((Fix.get g6 la_211 5 5 (by decide +kernel)).trans (by clear h; omega)) ?_
    refine Z_iload dX12_see_86 rfl ?_
    obtain ⟨g7, h⟩ := h
    obtain ⟨g8, h⟩ := h
    refine Z_iald dX12_see_88 la_216 (z_leN la_216 (by decide)) g7 g8 ?_
    refine Z_iload_n 1 dX12_see_89 rfl rfl ?_
    obtain ⟨g9, h⟩ := h
    obtain ⟨g10, h⟩ := h
    refine Z_icmp_ne (tgt := 107) dX12_see_90 (by decide) g9 g10 (fun c => ?_) (fun c => ?_)
    · replace h := h.1 c
      refine Z_iinc (L' := [(2, 211), (0, x1), (0, x2), (0, x3), (0, x4), (0, (x5 + 1))]) dX12_see_107 rfl (Nat.le_of_ble_eq_true rfl) rfl ?_
      refine Z_goto (tgt := 73) dX12_see_110 (by decide) ?_
      exact Z_few (z_few_k (z_few_k (z_few_k (z_few_k (z_few_k (z_few_k z_few_0)))))) h
    · replace h := h.2 c
      refine Z_aload_n 0 dX12_see_93 rfl rfl ?_
      refine Z_get (T := TX12) (N := 30) (ci := 12) (t := 2) 6 dX12_see_94 la_211 (z_leN la_211 (by decide)) rfl (by decide) inX12 (by decide) (flX12_26 rfl) rfl ?_
      refine Z_top (y := 217) ((Fix.get g6 la_211 6 6 (by decide +kernel)).trans (by clear h; omega)) ?_
      refine Z_iload dX12_see_97 rfl ?_
      refine Z_iald dX12_see_99 la_217 (z_leN la_217 (by decide)) g7 g8 ?_
      refine Z_iload_n 2 dX12_see_100 rfl rfl ?_
      obtain ⟨g11, h⟩ := h
      obtain ⟨g12, h⟩ := h
      refine Z_icmp_ne (tgt := 107) dX12_see_101 (by decide) g11 g12 (fun c => ?_) (fun c => ?_)
      · replace h := h.1 c
        refine Z_iinc (L' := [(2, 211), (0, x1), (0, x2), (0, x3), (0, x4), (0, (x5 + 1))]) dX12_see_107 rfl (Nat.le_of_ble_eq_true rfl) rfl ?_
        refine Z_goto (tgt := 73) dX12_see_110 (by decide) ?_
        exact Z_few (z_few_k (z_few_k (z_few_k (z_few_k (z_few_k (z_few_k z_few_0)))))) h
      · replace h := h.2 c
        refine Z_bipush dX12_see_104 (by decide) ?_
        exact Z_ireturn dX12_see_106 rfl rfl ⟨rfl, h⟩
theorem bk_X12_drop {X : ZS} {σ : ZM} {T : Int → ZM → Prop} {x1 : Int} (h : ZC X (rX12_isSeen zN) mX12_isSeen [(2, 211), (0, x1)] zN σ (zQz (fun r1 σ2 => ((r1 = true) → Z X (rX12_drop zN) mX12_drop 23 [(2, 211), (9, 0), (0, x1)] [] zN (z_up σ2 211 4 ((σ2 211 4) - 1)) (zQi T)) ∧ ((r1 = false) → T (-2) σ2)))) : ZC X (rX12_drop zN) mX12_drop [(2, 211), (0, x1)] zN σ (zQi T) := by
  show Z X _ _ 0 [(2, 211), (0, x1), (9, 0)] [] _ σ _
  refine Z_aload_n 0 dX12_drop_0 rfl rfl ?_
  refine Z_iload_n 1 dX12_drop_1 rfl rfl ?_
  refine Z_invV (T := TX12) (N := 30) (ci := 12) (M' := mX12_isSeen) (ρ' := rX12_isSeen zN) (st := []) [(0, x1)] dX12_drop_2 rfl rfl la_211 (z_leN la_211 (by decide)) (by decide) rfl rfl (kX12_isSeen.cl (Nat.le_of_ble_eq_true rfl) (Nat.le_refl _) (Nat.le_refl _) (Nat.le_of_ble_eq_true rfl) (Nat.le_of_ble_eq_true rfl) (Nat.le_of_ble_eq_true rfl)) (mlX12_190 rfl) iX12_isSeen sX12_isSeen h (z_kz (fun r1 σ2 h => ?_))
  refine Z_zif_ne (tgt := 11) dX12_drop_5 (by decide) (fun c => ?_) (fun c => ?_)
  · replace h := h.1 c
    refine Z_aload_n 0 dX12_drop_11 rfl rfl ?_
    refine Z_dup dX12_drop_12 (by simp) ?_
    refine Z_get (T := TX12) (N := 30) (ci := 12) (t := 0) 4 dX12_drop_13 la_211 (z_leN la_211 (by decide)) rfl (by decide) inX12 (by decide) (flX12_167 rfl) rfl ?_
    refine Z_iconst dX12_drop_16 ?_
    refine Z_isub dX12_drop_17 ?_
    refine Z_put (T := TX12) (N := 30) (ci := 12) (t := 0) tyX12 4 dX12_drop_18 la_211 (z_leN la_211 (by decide)) rfl (by decide) inX12 (by decide) (plX12_167 rfl) rfl tyX12_ok nmX12 rfl (z_nf_i _) ?_
    refine Z_iload_n 1 dX12_drop_21 rfl rfl ?_
    refine Z_istore_n (L' := [(2, 211), (0, x1), (0, x1)]) 2 dX12_drop_22 rfl (Nat.le_of_ble_eq_true rfl) rfl ?_
    exact Z_few (z_few_k (z_few_d (z_few_k z_few_0))) h
  · replace h := h.2 c
    refine Z_bipush dX12_drop_8 (by decide) ?_
    exact Z_ireturn dX12_drop_10 rfl rfl ⟨rfl, h⟩
theorem bk_X12_drop_23 {X : ZS} {σ : ZM} {T : Int → ZM → Prop} {x2 : Int} (h : (r32 x2) ∧ (r32 (σ 211 4)) ∧ (((σ 211 4) ≤ x2) → T (σ 211 4) (z_up σ 211 13 0)) ∧ ((¬ ((σ 211 4) ≤ x2)) → (Fix σ) ∧ (0 ≤ (x2 + 1)) ∧ ((x2 + 1) < 8) ∧ (0 ≤ x2) ∧ (x2 < 8) ∧ Z X (rX12_drop zN) mX12_drop 23 [(2, 211), (9, 0), (0, (x2 + 1))] [] zN (z_up (z_up (z_up (z_up σ 216 x2 (σ 216 (x2 + 1))) 217 x2 (σ 217 (x2 + 1))) 218 x2 (σ 218 (x2 + 1))) 219 x2 (σ 219 (x2 + 1))) (zQi T))) : Z X (rX12_drop zN) mX12_drop 23 [(2, 211), (9, 0), (0, x2)] [] zN σ (zQi T) := by
  refine Z_iload_n 2 dX12_drop_23 rfl rfl ?_
  refine Z_aload_n 0 dX12_drop_24 rfl rfl ?_
  refine Z_get (T := TX12) (N := 30) (ci := 12) (t := 0) 4 dX12_drop_25 la_211 (z_leN la_211 (by decide)) rfl (by decide) inX12 (by decide) (flX12_167 rfl) rfl ?_
  obtain ⟨g1, h⟩ := h
  obtain ⟨g2, h⟩ := h
  refine Z_icmp_ge (tgt := 93) dX12_drop_28 (by decide) g1 g2 (fun c => ?_) (fun c => ?_)
  · replace h := h.1 c
    refine Z_aload_n 0 dX12_drop_93 rfl rfl ?_
    refine Z_iconst dX12_drop_94 ?_
    refine Z_put (T := TX12) (N := 30) (ci := 12) (t := 0) tyX12 13 dX12_drop_95 la_211 (z_leN la_211 (by decide)) rfl (by decide) inX12 (by decide) (plX12_186 rfl) rfl tyX12_ok nmX12 rfl (z_nf_z (Or.inl rfl)) ?_
    refine Z_aload_n 0 dX12_drop_98 rfl rfl ?_
    refine Z_get (T := TX12) (N := 30) (ci := 12) (t := 0) 4 dX12_drop_99 la_211 (z_leN la_211 (by decide)) rfl (by decide) inX12 (by decide) (flX12_167 rfl) rfl ?_
    refine Z_top (z_up_ne _ (Or.inr (by decide))) ?_
    exact Z_ireturn dX12_drop_102 rfl rfl ⟨rfl, h⟩
  · replace h := h.2 c
    refine Z_aload_n 0 dX12_drop_31 rfl rfl ?_
    obtain ⟨g3, h⟩ := h
    refine Z_get (T := TX12) (N := 30) (ci := 12) (t := 2) 5 dX12_drop_32 la_211 (z_leN la_211 (by decide)) rfl (by decide) inX12 (by decide) (flX12_23 rfl) rfl ?_
    refine Z_top (y := 216) ((Fix.get g3 la_211 5 5 (by decide +kernel)).trans (by clear h; omega)) ?_
    refine Z_iload_n 2 dX12_drop_35 rfl rfl ?_
    refine Z_aload_n 0 dX12_drop_36 rfl rfl ?_
    refine Z_get (T := TX12) (N := 30) (ci := 12) (t := 2) 5 dX12_drop_37 la_211 (z_leN la_211 (by decide)) rfl (by decide) inX12 (by decide) (flX12_23 rfl) rfl ?_
    refine Z_top (y := 216) ((Fix.get g3 la_211 5 5 (by decide +kernel)).trans (by clear h; omega)) ?_
    refine Z_iload_n 2 dX12_drop_40 rfl rfl ?_
    refine Z_iconst dX12_drop_41 ?_
    refine Z_iadd dX12_drop_42 ?_
    obtain ⟨g4, h⟩ := h
    obtain ⟨g5, h⟩ := h
    refine Z_iald dX12_drop_43 la_216 (z_leN la_216 (by decide)) g4 g5 ?_
    obtain ⟨g6, h⟩ := h
    obtain ⟨g7, h⟩ := h
    refine Z_iast dX12_drop_44 la_216 (z_leN la_216 (by decide)) g6 g7 ?_
    refine Z_aload_n 0 dX12_drop_45 rfl rfl ?_
    refine Z_get (T := TX12) (N := 30) (ci := 12) (t := 2) 6 dX12_drop_46 la_211 (z_leN la_211 (by decide)) rfl (by decide) inX12 (by decide) (flX12_26 rfl) rfl ?_
    refine Z_top (y := 217) ((Fix.get (Fix.upA g3 la_216 (by decide)) la_211 6 6 (by decide +kernel)).trans (by clear h; omega)) ?_
    refine Z_iload_n 2 dX12_drop_49 rfl rfl ?_
    refine Z_aload_n 0 dX12_drop_50 rfl rfl ?_
    refine Z_get (T := TX12) (N := 30) (ci := 12) (t := 2) 6 dX12_drop_51 la_211 (z_leN la_211 (by decide)) rfl (by decide) inX12 (by decide) (flX12_26 rfl) rfl ?_
    refine Z_top (y := 217) ((Fix.get (Fix.upA g3 la_216 (by decide)) la_211 6 6 (by decide +kernel)).trans (by clear h; omega)) ?_
    refine Z_iload_n 2 dX12_drop_54 rfl rfl ?_
    refine Z_iconst dX12_drop_55 ?_
    refine Z_iadd dX12_drop_56 ?_
    refine Z_iald dX12_drop_57 la_217 (z_leN la_217 (by decide)) g4 g5 ?_
    refine Z_top (z_up_ne _ (Or.inl (by decide))) ?_
    refine Z_iast dX12_drop_58 la_217 (z_leN la_217 (by decide)) g6 g7 ?_
    refine Z_aload_n 0 dX12_drop_59 rfl rfl ?_
    refine Z_get (T := TX12) (N := 30) (ci := 12) (t := 2) 7 dX12_drop_60 la_211 (z_leN la_211 (by decide)) rfl (by decide) inX12 (by decide) (flX12_29 rfl) rfl ?_
    refine Z_top (y := 218) ((Fix.get (Fix.upA (Fix.upA g3 la_216 (by decide)) la_217 (by decide)) la_211 7 7 (by decide +kernel)).trans (by clear h; omega)) ?_
    refine Z_iload_n 2 dX12_drop_63 rfl rfl ?_
    refine Z_aload_n 0 dX12_drop_64 rfl rfl ?_
    refine Z_get (T := TX12) (N := 30) (ci := 12) (t := 2) 7 dX12_drop_65 la_211 (z_leN la_211 (by decide)) rfl (by decide) inX12 (by decide) (flX12_29 rfl) rfl ?_
    refine Z_top (y := 218) ((Fix.get (Fix.upA (Fix.upA g3 la_216 (by decide)) la_217 (by decide)) la_211 7 7 (by decide +kernel)).trans (by clear h; omega)) ?_
    refine Z_iload_n 2 dX12_drop_68 rfl rfl ?_
    refine Z_iconst dX12_drop_69 ?_
    refine Z_iadd dX12_drop_70 ?_
    refine Z_iald dX12_drop_71 la_218 (z_leN la_218 (by decide)) g4 g5 ?_
    refine Z_top ((z_up_ne _ (Or.inl (by decide))).trans (z_up_ne _ (Or.inl (by decide)))) ?_
    refine Z_iast dX12_drop_72 la_218 (z_leN la_218 (by decide)) g6 g7 ?_
    refine Z_aload_n 0 dX12_drop_73 rfl rfl ?_
    refine Z_get (T := TX12) (N := 30) (ci := 12) (t := 2) 8 dX12_drop_74 la_211 (z_leN la_211 (by decide)) rfl (by decide) inX12 (by decide) (flX12_32 rfl) rfl ?_
    refine Z_top (y := 219) ((Fix.get (Fix.upA (Fix.upA (Fix.upA g3 la_216 (by decide)) la_217 (by decide)) la_218 (by decide)) la_211 8 8 (by decide +kernel)).trans (by clear h; omega)) ?_
    refine Z_iload_n 2 dX12_drop_77 rfl rfl ?_
    refine Z_aload_n 0 dX12_drop_78 rfl rfl ?_
    refine Z_get (T := TX12) (N := 30) (ci := 12) (t := 2) 8 dX12_drop_79 la_211 (z_leN la_211 (by decide)) rfl (by decide) inX12 (by decide) (flX12_32 rfl) rfl ?_
    refine Z_top (y := 219) ((Fix.get (Fix.upA (Fix.upA (Fix.upA g3 la_216 (by decide)) la_217 (by decide)) la_218 (by decide)) la_211 8 8 (by decide +kernel)).trans (by clear h; omega)) ?_
    refine Z_iload_n 2 dX12_drop_82 rfl rfl ?_
    refine Z_iconst dX12_drop_83 ?_
    refine Z_iadd dX12_drop_84 ?_
    refine Z_iald dX12_drop_85 la_219 (z_leN la_219 (by decide)) g4 g5 ?_
    refine Z_top ((z_up_ne _ (Or.inl (by decide))).trans ((z_up_ne _ (Or.inl (by decide))).trans (z_up_ne _ (Or.inl (by decide))))) ?_
    refine Z_iast dX12_drop_86 la_219 (z_leN la_219 (by decide)) g6 g7 ?_
    refine Z_iinc (L' := [(2, 211), (9, 0), (0, (x2 + 1))]) dX12_drop_87 rfl (Nat.le_of_ble_eq_true rfl) rfl ?_
    refine Z_goto (tgt := 23) dX12_drop_90 (by decide) ?_
    exact Z_few (z_few_k (z_few_k (z_few_k z_few_0))) h
theorem bk_X12_isLaw {X : ZS} {σ : ZM} {T : Bool → ZM → Prop} {x1 : Int} (h : (r32 x1) ∧ ((x1 < 0) → T false σ) ∧ ((¬ (x1 < 0)) → (r32 (σ 211 9)) ∧ (((σ 211 9) ≤ x1) → T false σ) ∧ ((¬ ((σ 211 9) ≤ x1)) → T true σ))) : ZC X (rX12_isLaw zN) mX12_isLaw [(2, 211), (0, x1)] zN σ (zQz T) := by
  show Z X _ _ 0 [(2, 211), (0, x1)] [] _ σ _
  refine Z_iload_n 1 dX12_isLaw_0 rfl rfl ?_
  obtain ⟨g1, h⟩ := h
  refine Z_if_lt (tgt := 16) dX12_isLaw_1 (by decide) g1 (fun c => ?_) (fun c => ?_)
  · replace h := h.1 c
    refine Z_iconst dX12_isLaw_16 ?_
    exact Z_zreturn dX12_isLaw_17 rfl (Or.inl rfl) rfl ⟨rfl, false, rfl, h⟩
  · replace h := h.2 c
    refine Z_iload_n 1 dX12_isLaw_4 rfl rfl ?_
    refine Z_aload_n 0 dX12_isLaw_5 rfl rfl ?_
    refine Z_get (T := TX12) (N := 30) (ci := 12) (t := 0) 9 dX12_isLaw_6 la_211 (z_leN la_211 (by decide)) rfl (by decide) inX12 (by decide) (flX12_193 rfl) rfl ?_
    obtain ⟨g2, h⟩ := h
    refine Z_icmp_ge (tgt := 16) dX12_isLaw_9 (by decide) g1 g2 (fun c => ?_) (fun c => ?_)
    · replace h := h.1 c
      refine Z_iconst dX12_isLaw_16 ?_
      exact Z_zreturn dX12_isLaw_17 rfl (Or.inl rfl) rfl ⟨rfl, false, rfl, h⟩
    · replace h := h.2 c
      refine Z_iconst dX12_isLaw_12 ?_
      refine Z_goto (tgt := 17) dX12_isLaw_13 (by decide) ?_
      exact Z_zreturn dX12_isLaw_17 rfl (Or.inr rfl) rfl ⟨rfl, true, rfl, h⟩
theorem bk_X12_straight {X : ZS} {σ : ZM} {T : Int → ZM → Prop} {x1 : Int} (h : (r32 x1) ∧ ((x1 < 1) → T (-4) σ) ∧ ((¬ (x1 < 1)) → ((x1 ≤ 100) → (r32 (σ 211 9)) ∧ ((¬ (σ 211 9) = 6) → Z X (rX12_straight zN) mX12_straight 28 [(2, 211), (0, x1), (0, 0)] [] zN σ (zQi T)) ∧ (((σ 211 9) = 6) → T (-8) σ)) ∧ ((¬ (x1 ≤ 100)) → T (-4) σ))) : ZC X (rX12_straight zN) mX12_straight [(2, 211), (0, x1)] zN σ (zQi T) := by
  show Z X _ _ 0 [(2, 211), (0, x1), (9, 0)] [] _ σ _
  refine Z_iload_n 1 dX12_straight_0 rfl rfl ?_
  refine Z_iconst dX12_straight_1 ?_
  obtain ⟨g1, h⟩ := h
  refine Z_icmp_lt (tgt := 11) dX12_straight_2 (by decide) g1 ⟨by decide, by decide⟩ (fun c => ?_) (fun c => ?_)
  · replace h := h.1 c
    refine Z_bipush dX12_straight_11 (by decide) ?_
    exact Z_ireturn dX12_straight_13 rfl rfl ⟨rfl, h⟩
  · replace h := h.2 c
    refine Z_iload_n 1 dX12_straight_5 rfl rfl ?_
    refine Z_bipush dX12_straight_6 (by decide) ?_
    refine Z_icmp_le (tgt := 14) dX12_straight_8 (by decide) g1 ⟨by decide, by decide⟩ (fun c => ?_) (fun c => ?_)
    · replace h := h.1 c
      refine Z_aload_n 0 dX12_straight_14 rfl rfl ?_
      refine Z_get (T := TX12) (N := 30) (ci := 12) (t := 0) 9 dX12_straight_15 la_211 (z_leN la_211 (by decide)) rfl (by decide) inX12 (by decide) (flX12_193 rfl) rfl ?_
      refine Z_bipush dX12_straight_18 (by decide) ?_
      obtain ⟨g2, h⟩ := h
      refine Z_icmp_ne (tgt := 26) dX12_straight_20 (by decide) g2 ⟨by decide, by decide⟩ (fun c => ?_) (fun c => ?_)
      · replace h := h.1 c
        refine Z_iconst dX12_straight_26 ?_
        refine Z_istore_n (L' := [(2, 211), (0, x1), (0, 0)]) 2 dX12_straight_27 rfl (Nat.le_of_ble_eq_true rfl) rfl ?_
        exact Z_few (z_few_k (z_few_k (z_few_k z_few_0))) h
      · replace h := h.2 c
        refine Z_bipush dX12_straight_23 (by decide) ?_
        exact Z_ireturn dX12_straight_25 rfl rfl ⟨rfl, h⟩
    · replace h := h.2 c
      refine Z_bipush dX12_straight_11 (by decide) ?_
      exact Z_ireturn dX12_straight_13 rfl rfl ⟨rfl, h⟩
theorem bk_X12_straight_28 {X : ZS} {σ : ZM} {T : Int → ZM → Prop} {x1 : Int} {x2 : Int} (h : (r32 x2) ∧ ((80 < x2) → T (((σ 211 9) + 1) - 1) (z_up σ 211 9 ((σ 211 9) + 1))) ∧ ((¬ (80 < x2)) → (Fix σ) ∧ (0 ≤ ((81 * (σ 211 9)) + x2)) ∧ (((81 * (σ 211 9)) + x2) < 486) ∧ Z X (rX12_straight zN) mX12_straight 28 [(2, 211), (0, x1), (0, (x2 + 1))] [] zN (z_up σ 220 ((81 * (σ 211 9)) + x2) (x1 * x2)) (zQi T))) : Z X (rX12_straight zN) mX12_straight 28 [(2, 211), (0, x1), (0, x2)] [] zN σ (zQi T) := by
  refine Z_iload_n 2 dX12_straight_28 rfl rfl ?_
  refine Z_bipush dX12_straight_29 (by decide) ?_
  obtain ⟨g1, h⟩ := h
  refine Z_icmp_gt (tgt := 57) dX12_straight_31 (by decide) g1 ⟨by decide, by decide⟩ (fun c => ?_) (fun c => ?_)
  · replace h := h.1 c
    refine Z_aload_n 0 dX12_straight_57 rfl rfl ?_
    refine Z_dup dX12_straight_58 (by simp) ?_
    refine Z_get (T := TX12) (N := 30) (ci := 12) (t := 0) 9 dX12_straight_59 la_211 (z_leN la_211 (by decide)) rfl (by decide) inX12 (by decide) (flX12_193 rfl) rfl ?_
    refine Z_iconst dX12_straight_62 ?_
    refine Z_iadd dX12_straight_63 ?_
    refine Z_put (T := TX12) (N := 30) (ci := 12) (t := 0) tyX12 9 dX12_straight_64 la_211 (z_leN la_211 (by decide)) rfl (by decide) inX12 (by decide) (plX12_193 rfl) rfl tyX12_ok nmX12 rfl (z_nf_i _) ?_
    refine Z_aload_n 0 dX12_straight_67 rfl rfl ?_
    refine Z_get (T := TX12) (N := 30) (ci := 12) (t := 0) 9 dX12_straight_68 la_211 (z_leN la_211 (by decide)) rfl (by decide) inX12 (by decide) (flX12_193 rfl) rfl ?_
    refine Z_top (z_up_same _ _ _ _) ?_
    refine Z_iconst dX12_straight_71 ?_
    refine Z_isub dX12_straight_72 ?_
    exact Z_ireturn dX12_straight_73 rfl rfl ⟨rfl, h⟩
  · replace h := h.2 c
    refine Z_aload_n 0 dX12_straight_34 rfl rfl ?_
    obtain ⟨g2, h⟩ := h
    refine Z_get (T := TX12) (N := 30) (ci := 12) (t := 2) 10 dX12_straight_35 la_211 (z_leN la_211 (by decide)) rfl (by decide) inX12 (by decide) (flX12_35 rfl) rfl ?_
    refine Z_top (y := 220) ((Fix.get g2 la_211 10 9 (by decide +kernel)).trans (by clear h; omega)) ?_
    refine Z_bipush dX12_straight_38 (by decide) ?_
    refine Z_aload_n 0 dX12_straight_40 rfl rfl ?_
    refine Z_get (T := TX12) (N := 30) (ci := 12) (t := 0) 9 dX12_straight_41 la_211 (z_leN la_211 (by decide)) rfl (by decide) inX12 (by decide) (flX12_193 rfl) rfl ?_
    refine Z_imul dX12_straight_44 ?_
    refine Z_iload_n 2 dX12_straight_45 rfl rfl ?_
    refine Z_iadd dX12_straight_46 ?_
    refine Z_iload_n 1 dX12_straight_47 rfl rfl ?_
    refine Z_iload_n 2 dX12_straight_48 rfl rfl ?_
    refine Z_imul dX12_straight_49 ?_
    obtain ⟨g3, h⟩ := h
    obtain ⟨g4, h⟩ := h
    refine Z_iast dX12_straight_50 la_220 (z_leN la_220 (by decide)) g3 g4 ?_
    refine Z_iinc (L' := [(2, 211), (0, x1), (0, (x2 + 1))]) dX12_straight_51 rfl (Nat.le_of_ble_eq_true rfl) rfl ?_
    refine Z_goto (tgt := 28) dX12_straight_54 (by decide) ?_
    exact Z_few (z_few_k (z_few_k (z_few_k z_few_0))) h
theorem bk_X12_capped {X : ZS} {σ : ZM} {T : Int → ZM → Prop} {x1 : Int} {x2 : Int} (h : (r32 x1) ∧ ((x1 < 1) → T (-4) σ) ∧ ((¬ (x1 < 1)) → ((100 < x1) → T (-4) σ) ∧ ((¬ (100 < x1)) → (r32 x2) ∧ ((x2 < 1) → T (-4) σ) ∧ ((¬ (x2 < 1)) → ((x2 ≤ 8000) → (r32 (σ 211 9)) ∧ ((¬ (σ 211 9) = 6) → Z X (rX12_capped zN) mX12_capped 40 [(2, 211), (0, x1), (0, x2), (0, 0)] [] zN σ (zQi T)) ∧ (((σ 211 9) = 6) → T (-8) σ)) ∧ ((¬ (x2 ≤ 8000)) → T (-4) σ))))) : ZC X (rX12_capped zN) mX12_capped [(2, 211), (0, x1), (0, x2)] zN σ (zQi T) := by
  show Z X _ _ 0 [(2, 211), (0, x1), (0, x2), (9, 0)] [] _ σ _
  refine Z_iload_n 1 dX12_capped_0 rfl rfl ?_
  refine Z_iconst dX12_capped_1 ?_
  obtain ⟨g1, h⟩ := h
  refine Z_icmp_lt (tgt := 23) dX12_capped_2 (by decide) g1 ⟨by decide, by decide⟩ (fun c => ?_) (fun c => ?_)
  · replace h := h.1 c
    refine Z_bipush dX12_capped_23 (by decide) ?_
    exact Z_ireturn dX12_capped_25 rfl rfl ⟨rfl, h⟩
  · replace h := h.2 c
    refine Z_iload_n 1 dX12_capped_5 rfl rfl ?_
    refine Z_bipush dX12_capped_6 (by decide) ?_
    refine Z_icmp_gt (tgt := 23) dX12_capped_8 (by decide) g1 ⟨by decide, by decide⟩ (fun c => ?_) (fun c => ?_)
    · replace h := h.1 c
      refine Z_bipush dX12_capped_23 (by decide) ?_
      exact Z_ireturn dX12_capped_25 rfl rfl ⟨rfl, h⟩
    · replace h := h.2 c
      refine Z_iload_n 2 dX12_capped_11 rfl rfl ?_
      refine Z_iconst dX12_capped_12 ?_
      obtain ⟨g2, h⟩ := h
      refine Z_icmp_lt (tgt := 23) dX12_capped_13 (by decide) g2 ⟨by decide, by decide⟩ (fun c => ?_) (fun c => ?_)
      · replace h := h.1 c
        refine Z_bipush dX12_capped_23 (by decide) ?_
        exact Z_ireturn dX12_capped_25 rfl rfl ⟨rfl, h⟩
      · replace h := h.2 c
        refine Z_iload_n 2 dX12_capped_16 rfl rfl ?_
        refine Z_sipush dX12_capped_17 (by decide) ?_
        refine Z_icmp_le (tgt := 26) dX12_capped_20 (by decide) g2 ⟨by decide, by decide⟩ (fun c => ?_) (fun c => ?_)
        · replace h := h.1 c
          refine Z_aload_n 0 dX12_capped_26 rfl rfl ?_
          refine Z_get (T := TX12) (N := 30) (ci := 12) (t := 0) 9 dX12_capped_27 la_211 (z_leN la_211 (by decide)) rfl (by decide) inX12 (by decide) (flX12_193 rfl) rfl ?_
          refine Z_bipush dX12_capped_30 (by decide) ?_
          obtain ⟨g3, h⟩ := h
          refine Z_icmp_ne (tgt := 38) dX12_capped_32 (by decide) g3 ⟨by decide, by decide⟩ (fun c => ?_) (fun c => ?_)
          · replace h := h.1 c
            refine Z_iconst dX12_capped_38 ?_
            refine Z_istore_n (L' := [(2, 211), (0, x1), (0, x2), (0, 0)]) 3 dX12_capped_39 rfl (Nat.le_of_ble_eq_true rfl) rfl ?_
            exact Z_few (z_few_k (z_few_k (z_few_k (z_few_k z_few_0)))) h
          · replace h := h.2 c
            refine Z_bipush dX12_capped_35 (by decide) ?_
            exact Z_ireturn dX12_capped_37 rfl rfl ⟨rfl, h⟩
        · replace h := h.2 c
          refine Z_bipush dX12_capped_23 (by decide) ?_
          exact Z_ireturn dX12_capped_25 rfl rfl ⟨rfl, h⟩
theorem bk_X12_capped_40 {X : ZS} {σ : ZM} {T : Int → ZM → Prop} {x1 : Int} {x2 : Int} {x3 : Int} (h : (r32 x3) ∧ ((80 < x3) → T (((σ 211 9) + 1) - 1) (z_up σ 211 9 ((σ 211 9) + 1))) ∧ ((¬ (80 < x3)) → (Fix σ) ∧ (r32 (x1 * x3)) ∧ (r32 x2) ∧ ((x2 ≤ (x1 * x3)) → (0 ≤ ((81 * (σ 211 9)) + x3)) ∧ (((81 * (σ 211 9)) + x3) < 486) ∧ Z X (rX12_capped zN) mX12_capped 40 [(2, 211), (0, x1), (0, x2), (0, (x3 + 1))] [] zN (z_up σ 220 ((81 * (σ 211 9)) + x3) x2) (zQi T)) ∧ ((¬ (x2 ≤ (x1 * x3))) → (0 ≤ ((81 * (σ 211 9)) + x3)) ∧ (((81 * (σ 211 9)) + x3) < 486) ∧ Z X (rX12_capped zN) mX12_capped 40 [(2, 211), (0, x1), (0, x2), (0, (x3 + 1))] [] zN (z_up σ 220 ((81 * (σ 211 9)) + x3) (x1 * x3)) (zQi T)))) : Z X (rX12_capped zN) mX12_capped 40 [(2, 211), (0, x1), (0, x2), (0, x3)] [] zN σ (zQi T) := by
  refine Z_iload_n 3 dX12_capped_40 rfl rfl ?_
  refine Z_bipush dX12_capped_41 (by decide) ?_
  obtain ⟨g1, h⟩ := h
  refine Z_icmp_gt (tgt := 80) dX12_capped_43 (by decide) g1 ⟨by decide, by decide⟩ (fun c => ?_) (fun c => ?_)
  · replace h := h.1 c
    refine Z_aload_n 0 dX12_capped_80 rfl rfl ?_
    refine Z_dup dX12_capped_81 (by simp) ?_
    refine Z_get (T := TX12) (N := 30) (ci := 12) (t := 0) 9 dX12_capped_82 la_211 (z_leN la_211 (by decide)) rfl (by decide) inX12 (by decide) (flX12_193 rfl) rfl ?_
    refine Z_iconst dX12_capped_85 ?_
    refine Z_iadd dX12_capped_86 ?_
    refine Z_put (T := TX12) (N := 30) (ci := 12) (t := 0) tyX12 9 dX12_capped_87 la_211 (z_leN la_211 (by decide)) rfl (by decide) inX12 (by decide) (plX12_193 rfl) rfl tyX12_ok nmX12 rfl (z_nf_i _) ?_
    refine Z_aload_n 0 dX12_capped_90 rfl rfl ?_
    refine Z_get (T := TX12) (N := 30) (ci := 12) (t := 0) 9 dX12_capped_91 la_211 (z_leN la_211 (by decide)) rfl (by decide) inX12 (by decide) (flX12_193 rfl) rfl ?_
    refine Z_top (z_up_same _ _ _ _) ?_
    refine Z_iconst dX12_capped_94 ?_
    refine Z_isub dX12_capped_95 ?_
    exact Z_ireturn dX12_capped_96 rfl rfl ⟨rfl, h⟩
  · replace h := h.2 c
    refine Z_aload_n 0 dX12_capped_46 rfl rfl ?_
    obtain ⟨g2, h⟩ := h
    refine Z_get (T := TX12) (N := 30) (ci := 12) (t := 2) 10 dX12_capped_47 la_211 (z_leN la_211 (by decide)) rfl (by decide) inX12 (by decide) (flX12_35 rfl) rfl ?_
    refine Z_top (y := 220) ((Fix.get g2 la_211 10 9 (by decide +kernel)).trans (by clear h; omega)) ?_
    refine Z_bipush dX12_capped_50 (by decide) ?_
    refine Z_aload_n 0 dX12_capped_52 rfl rfl ?_
    refine Z_get (T := TX12) (N := 30) (ci := 12) (t := 0) 9 dX12_capped_53 la_211 (z_leN la_211 (by decide)) rfl (by decide) inX12 (by decide) (flX12_193 rfl) rfl ?_
    refine Z_imul dX12_capped_56 ?_
    refine Z_iload_n 3 dX12_capped_57 rfl rfl ?_
    refine Z_iadd dX12_capped_58 ?_
    refine Z_iload_n 1 dX12_capped_59 rfl rfl ?_
    refine Z_iload_n 3 dX12_capped_60 rfl rfl ?_
    refine Z_imul dX12_capped_61 ?_
    refine Z_iload_n 2 dX12_capped_62 rfl rfl ?_
    obtain ⟨g3, h⟩ := h
    obtain ⟨g4, h⟩ := h
    refine Z_icmp_ge (tgt := 72) dX12_capped_63 (by decide) g3 g4 (fun c => ?_) (fun c => ?_)
    · replace h := h.1 c
      refine Z_iload_n 2 dX12_capped_72 rfl rfl ?_
      obtain ⟨g5, h⟩ := h
      obtain ⟨g6, h⟩ := h
      refine Z_iast dX12_capped_73 la_220 (z_leN la_220 (by decide)) g5 g6 ?_
      refine Z_iinc (L' := [(2, 211), (0, x1), (0, x2), (0, (x3 + 1))]) dX12_capped_74 rfl (Nat.le_of_ble_eq_true rfl) rfl ?_
      refine Z_goto (tgt := 40) dX12_capped_77 (by decide) ?_
      exact Z_few (z_few_k (z_few_k (z_few_k (z_few_k z_few_0)))) h
    · replace h := h.2 c
      refine Z_iload_n 1 dX12_capped_66 rfl rfl ?_
      refine Z_iload_n 3 dX12_capped_67 rfl rfl ?_
      refine Z_imul dX12_capped_68 ?_
      refine Z_goto (tgt := 73) dX12_capped_69 (by decide) ?_
      obtain ⟨g7, h⟩ := h
      obtain ⟨g8, h⟩ := h
      refine Z_iast dX12_capped_73 la_220 (z_leN la_220 (by decide)) g7 g8 ?_
      refine Z_iinc (L' := [(2, 211), (0, x1), (0, x2), (0, (x3 + 1))]) dX12_capped_74 rfl (Nat.le_of_ble_eq_true rfl) rfl ?_
      refine Z_goto (tgt := 40) dX12_capped_77 (by decide) ?_
      exact Z_few (z_few_k (z_few_k (z_few_k (z_few_k z_few_0)))) h
theorem bk_X12_table {X : ZS} {σ : ZM} {T : Int → ZM → Prop} {x1 : Int} (h : ZC X (rX12_isSlot zN) mX12_isSlot [(0, x1)] zN σ (zQz (fun r1 σ2 => ((r1 = true) → (r32 (σ2 211 9)) ∧ ((¬ (σ2 211 9) = 6) → (Fix σ2) ∧ (0 ≤ x1) ∧ (x1 < 8) ∧ (r32 (σ2 213 x1)) ∧ ((¬ (σ2 213 x1) = 0) → Z X (rX12_table zN) mX12_table 48 [(2, 211), (0, x1), (0, ((σ2 213 x1) - 1)), (0, 1), (0, 0), (9, 0), (9, 0)] [] zN σ2 (zQi T)) ∧ (((σ2 213 x1) = 0) → T (-5) σ2)) ∧ (((σ2 211 9) = 6) → T (-8) σ2)) ∧ ((r1 = false) → T (-2) σ2)))) : ZC X (rX12_table zN) mX12_table [(2, 211), (0, x1)] zN σ (zQi T) := by
  show Z X _ _ 0 [(2, 211), (0, x1), (9, 0), (9, 0), (9, 0), (9, 0), (9, 0)] [] _ σ _
  refine Z_iload_n 1 dX12_table_0 rfl rfl ?_
  refine Z_invS (M' := mX12_isSlot) (ρ' := rX12_isSlot zN) (st := []) [(0, x1)] dX12_table_1 rfl rfl (kX12_isSlot.cl (Nat.le_of_ble_eq_true rfl) (Nat.le_refl _) (Nat.le_refl _) (Nat.le_of_ble_eq_true rfl) (Nat.le_of_ble_eq_true rfl) (Nat.le_of_ble_eq_true rfl)) (mlX12_141 rfl) sX12_isSlot h (z_kz (fun r1 σ2 h => ?_))
  refine Z_zif_ne (tgt := 10) dX12_table_4 (by decide) (fun c => ?_) (fun c => ?_)
  · replace h := h.1 c
    refine Z_aload_n 0 dX12_table_10 rfl rfl ?_
    refine Z_get (T := TX12) (N := 30) (ci := 12) (t := 0) 9 dX12_table_11 la_211 (z_leN la_211 (by decide)) rfl (by decide) inX12 (by decide) (flX12_193 rfl) rfl ?_
    refine Z_bipush dX12_table_14 (by decide) ?_
    obtain ⟨g3, h⟩ := h
    refine Z_icmp_ne (tgt := 22) dX12_table_16 (by decide) g3 ⟨by decide, by decide⟩ (fun c => ?_) (fun c => ?_)
    · replace h := h.1 c
      refine Z_aload_n 0 dX12_table_22 rfl rfl ?_
      obtain ⟨g4, h⟩ := h
      refine Z_get (T := TX12) (N := 30) (ci := 12) (t := 2) 1 dX12_table_23 la_211 (z_leN la_211 (by decide)) rfl (by decide) inX12 (by decide) (flX12_13 rfl) rfl ?_
      refine Z_top (y := 213) ((Fix.get g4 la_211 1 2 (by decide +kernel)).trans (by clear h; omega)) ?_
      refine Z_iload_n 1 dX12_table_26 rfl rfl ?_
      obtain ⟨g5, h⟩ := h
      obtain ⟨g6, h⟩ := h
      refine Z_iald dX12_table_27 la_213 (z_leN la_213 (by decide)) g5 g6 ?_
      obtain ⟨g7, h⟩ := h
      refine Z_if_ne (tgt := 34) dX12_table_28 (by decide) g7 (fun c => ?_) (fun c => ?_)
      · replace h := h.1 c
        refine Z_aload_n 0 dX12_table_34 rfl rfl ?_
        refine Z_get (T := TX12) (N := 30) (ci := 12) (t := 2) 1 dX12_table_35 la_211 (z_leN la_211 (by decide)) rfl (by decide) inX12 (by decide) (flX12_13 rfl) rfl ?_
        refine Z_top (y := 213) ((Fix.get g4 la_211 1 2 (by decide +kernel)).trans (by clear h; omega)) ?_
        refine Z_iload_n 1 dX12_table_38 rfl rfl ?_
        refine Z_iald dX12_table_39 la_213 (z_leN la_213 (by decide)) g5 g6 ?_
        refine Z_iconst dX12_table_40 ?_
        refine Z_isub dX12_table_41 ?_
        refine Z_istore_n (L' := [(2, 211), (0, x1), (0, ((σ2 213 x1) - 1)), (9, 0), (9, 0), (9, 0), (9, 0)]) 2 dX12_table_42 rfl (Nat.le_of_ble_eq_true rfl) rfl ?_
        refine Z_iconst dX12_table_43 ?_
        refine Z_istore_n (L' := [(2, 211), (0, x1), (0, ((σ2 213 x1) - 1)), (0, 1), (9, 0), (9, 0), (9, 0)]) 3 dX12_table_44 rfl (Nat.le_of_ble_eq_true rfl) rfl ?_
        refine Z_iconst dX12_table_45 ?_
        refine Z_istore (L' := [(2, 211), (0, x1), (0, ((σ2 213 x1) - 1)), (0, 1), (0, 0), (9, 0), (9, 0)]) dX12_table_46 (Nat.le_of_ble_eq_true rfl) rfl ?_
        exact Z_few (z_few_k (z_few_k (z_few_k (z_few_k (z_few_k (z_few_k (z_few_k z_few_0))))))) h
      · replace h := h.2 c
        refine Z_bipush dX12_table_31 (by decide) ?_
        exact Z_ireturn dX12_table_33 rfl rfl ⟨rfl, h⟩
    · replace h := h.2 c
      refine Z_bipush dX12_table_19 (by decide) ?_
      exact Z_ireturn dX12_table_21 rfl rfl ⟨rfl, h⟩
  · replace h := h.2 c
    refine Z_bipush dX12_table_7 (by decide) ?_
    exact Z_ireturn dX12_table_9 rfl rfl ⟨rfl, h⟩
theorem bk_X12_table_48 {X : ZS} {σ : ZM} {T : Int → ZM → Prop} {x1 : Int} {x2 : Int} {x3 : Int} {x4 : Int} (h : (r32 x4) ∧ (r32 x3) ∧ ((x3 ≤ x4) → Z X (rX12_table zN) mX12_table 140 [(2, 211), (9, 0), (9, 0), (9, 0), (0, 0), (9, 0), (9, 0)] [] zN σ (zQi T)) ∧ ((¬ (x3 ≤ x4)) → (r32 x2) ∧ ((x4 < x2) → (Fix σ) ∧ (0 ≤ ((60 * x1) + x4)) ∧ (((60 * x1) + x4) < 480) ∧ ((¬ x4 = 0) → ZC X (rX12_isIn zN) mX12_isIn [(1, (σ 215 ((60 * x1) + x4))), (1, 0), (1, 8000)] zN σ (zQz (fun r7 σ8 => ((r7 = true) → (Fix σ8) ∧ (0 ≤ x4) ∧ (x4 < 60) ∧ Z X (rX12_table zN) mX12_table 48 [(2, 211), (0, x1), (0, x2), (0, (1 + ((z_up σ8 225 x4 (σ 215 ((60 * x1) + x4))) 225 0))), (0, (x4 + 1)), (9, 0), (9, 0)] [] zN (z_up σ8 225 x4 (σ 215 ((60 * x1) + x4))) (zQi T)) ∧ ((r7 = false) → T (-4) σ8)))) ∧ ((x4 = 0) → ZC X (rX12_isIn zN) mX12_isIn [(1, (σ 215 ((60 * x1) + x4))), (1, 1), (1, 40)] zN σ (zQz (fun r12 σ13 => ((r12 = true) → (Fix σ13) ∧ (0 ≤ x4) ∧ (x4 < 60) ∧ Z X (rX12_table zN) mX12_table 48 [(2, 211), (0, x1), (0, x2), (0, (1 + ((z_up σ13 225 x4 (σ 215 ((60 * x1) + x4))) 225 0))), (0, (x4 + 1)), (9, 0), (9, 0)] [] zN (z_up σ13 225 x4 (σ 215 ((60 * x1) + x4))) (zQi T)) ∧ ((r12 = false) → T (-4) σ13))))) ∧ ((¬ (x4 < x2)) → T (-6) σ))) : Z X (rX12_table zN) mX12_table 48 [(2, 211), (0, x1), (0, x2), (0, x3), (0, x4), (9, 0), (9, 0)] [] zN σ (zQi T) := by
  refine Z_iload dX12_table_48 rfl ?_
  refine Z_iload_n 3 dX12_table_50 rfl rfl ?_
  obtain ⟨g1, h⟩ := h
  obtain ⟨g2, h⟩ := h
  refine Z_icmp_ge (tgt := 137) dX12_table_51 (by decide) g1 g2 (fun c => ?_) (fun c => ?_)
  · replace h := h.1 c
    refine Z_iconst dX12_table_137 ?_
    refine Z_istore (L' := [(2, 211), (0, x1), (0, x2), (0, x3), (0, 0), (9, 0), (9, 0)]) dX12_table_138 (Nat.le_of_ble_eq_true rfl) rfl ?_
    exact Z_few (z_few_k (z_few_d (z_few_d (z_few_d (z_few_k (z_few_k (z_few_k z_few_0))))))) h
  · replace h := h.2 c
    refine Z_iload dX12_table_54 rfl ?_
    refine Z_iload_n 2 dX12_table_56 rfl rfl ?_
    obtain ⟨g3, h⟩ := h
    refine Z_icmp_lt (tgt := 63) dX12_table_57 (by decide) g1 g3 (fun c => ?_) (fun c => ?_)
    · replace h := h.1 c
      refine Z_aload_n 0 dX12_table_63 rfl rfl ?_
      obtain ⟨g4, h⟩ := h
      refine Z_get (T := TX12) (N := 30) (ci := 12) (t := 2) 3 dX12_table_64 la_211 (z_leN la_211 (by decide)) rfl (by decide) inX12 (by decide) (flX12_20 rfl) rfl ?_
      refine Z_top (y := 215) ((Fix.get g4 la_211 3 4 (by decide +kernel)).trans (by clear h; omega)) ?_
      refine Z_bipush dX12_table_67 (by decide) ?_
      refine Z_iload_n 1 dX12_table_69 rfl rfl ?_
      refine Z_imul dX12_table_70 ?_
      refine Z_iload dX12_table_71 rfl ?_
      refine Z_iadd dX12_table_73 ?_
      obtain ⟨g5, h⟩ := h
      obtain ⟨g6, h⟩ := h
      refine Z_lald dX12_table_74 la_215 (z_leN la_215 (by decide)) g5 g6 ?_
      refine Z_lstore (L' := [(2, 211), (0, x1), (0, x2), (0, x3), (0, x4), (1, (σ 215 ((60 * x1) + x4))), (9, 0)]) dX12_table_75 (Nat.le_of_ble_eq_true rfl) rfl ?_
      refine Z_iload dX12_table_77 rfl ?_
      refine Z_if_ne (tgt := 97) dX12_table_79 (by decide) g1 (fun c => ?_) (fun c => ?_)
      · replace h := h.1 c
        refine Z_lload dX12_table_97 rfl ?_
        refine Z_lconst (x := 0) dX12_table_99 rfl ?_
        refine Z_ldc2 (x := 8000) dX12_table_100 ctX12_198 rfl ?_
        refine Z_invS (M' := mX12_isIn) (ρ' := rX12_isIn zN) (st := []) [(1, (σ 215 ((60 * x1) + x4))), (1, 0), (1, 8000)] dX12_table_103 rfl rfl (kX12_isIn.cl (Nat.le_of_ble_eq_true rfl) (Nat.le_refl _) (Nat.le_refl _) (Nat.le_of_ble_eq_true rfl) (Nat.le_of_ble_eq_true rfl) (Nat.le_of_ble_eq_true rfl)) (mlX12_172 rfl) sX12_isIn h (z_kz (fun r7 σ8 h => ?_))
        refine Z_zif_ne (tgt := 112) dX12_table_106 (by decide) (fun c => ?_) (fun c => ?_)
        · replace h := h.1 c
          refine Z_aload_n 0 dX12_table_112 rfl rfl ?_
          obtain ⟨g9, h⟩ := h
          refine Z_get (T := TX12) (N := 30) (ci := 12) (t := 2) 22 dX12_table_113 la_211 (z_leN la_211 (by decide)) rfl (by decide) inX12 (by decide) (flX12_57 rfl) rfl ?_
          refine Z_top (y := 225) ((Fix.get g9 la_211 22 14 (by decide +kernel)).trans (by clear h; omega)) ?_
          refine Z_iload dX12_table_116 rfl ?_
          refine Z_lload dX12_table_118 rfl ?_
          refine Z_l2i dX12_table_120 ?_
          obtain ⟨g10, h⟩ := h
          obtain ⟨g11, h⟩ := h
          refine Z_iast dX12_table_121 la_225 (z_leN la_225 (by decide)) g10 g11 ?_
          refine Z_iconst dX12_table_122 ?_
          refine Z_aload_n 0 dX12_table_123 rfl rfl ?_
          refine Z_get (T := TX12) (N := 30) (ci := 12) (t := 2) 22 dX12_table_124 la_211 (z_leN la_211 (by decide)) rfl (by decide) inX12 (by decide) (flX12_57 rfl) rfl ?_
          refine Z_top (y := 225) ((Fix.get (Fix.upA g9 la_225 (by decide)) la_211 22 14 (by decide +kernel)).trans (by clear h; omega)) ?_
          refine Z_iconst dX12_table_127 ?_
          refine Z_iald dX12_table_128 la_225 (z_leN la_225 (by decide)) (by decide) (by decide) ?_
          refine Z_iadd dX12_table_129 ?_
          refine Z_istore_n (L' := [(2, 211), (0, x1), (0, x2), (0, (1 + ((z_up σ8 225 x4 (σ 215 ((60 * x1) + x4))) 225 0))), (0, x4), (1, (σ 215 ((60 * x1) + x4))), (9, 0)]) 3 dX12_table_130 rfl (Nat.le_of_ble_eq_true rfl) rfl ?_
          refine Z_iinc (L' := [(2, 211), (0, x1), (0, x2), (0, (1 + ((z_up σ8 225 x4 (σ 215 ((60 * x1) + x4))) 225 0))), (0, (x4 + 1)), (1, (σ 215 ((60 * x1) + x4))), (9, 0)]) dX12_table_131 rfl (Nat.le_of_ble_eq_true rfl) rfl ?_
          refine Z_goto (tgt := 48) dX12_table_134 (by decide) ?_
          exact Z_few (z_few_k (z_few_k (z_few_k (z_few_k (z_few_k (z_few_d (z_few_k z_few_0))))))) h
        · replace h := h.2 c
          refine Z_bipush dX12_table_109 (by decide) ?_
          exact Z_ireturn dX12_table_111 rfl rfl ⟨rfl, h⟩
      · replace h := h.2 c
        refine Z_lload dX12_table_82 rfl ?_
        refine Z_lconst (x := 1) dX12_table_84 rfl ?_
        refine Z_ldc2 (x := 40) dX12_table_85 ctX12_196 rfl ?_
        refine Z_invS (M' := mX12_isIn) (ρ' := rX12_isIn zN) (st := []) [(1, (σ 215 ((60 * x1) + x4))), (1, 1), (1, 40)] dX12_table_88 rfl rfl (kX12_isIn.cl (Nat.le_of_ble_eq_true rfl) (Nat.le_refl _) (Nat.le_refl _) (Nat.le_of_ble_eq_true rfl) (Nat.le_of_ble_eq_true rfl) (Nat.le_of_ble_eq_true rfl)) (mlX12_172 rfl) sX12_isIn h (z_kz (fun r12 σ13 h => ?_))
        refine Z_zif_ne (tgt := 112) dX12_table_91 (by decide) (fun c => ?_) (fun c => ?_)
        · replace h := h.1 c
          refine Z_aload_n 0 dX12_table_112 rfl rfl ?_
          obtain ⟨g14, h⟩ := h
          refine Z_get (T := TX12) (N := 30) (ci := 12) (t := 2) 22 dX12_table_113 la_211 (z_leN la_211 (by decide)) rfl (by decide) inX12 (by decide) (flX12_57 rfl) rfl ?_
          refine Z_top (y := 225) ((Fix.get g14 la_211 22 14 (by decide +kernel)).trans (by clear h; omega)) ?_
          refine Z_iload dX12_table_116 rfl ?_
          refine Z_lload dX12_table_118 rfl ?_
          refine Z_l2i dX12_table_120 ?_
          obtain ⟨g15, h⟩ := h
          obtain ⟨g16, h⟩ := h
          refine Z_iast dX12_table_121 la_225 (z_leN la_225 (by decide)) g15 g16 ?_
          refine Z_iconst dX12_table_122 ?_
          refine Z_aload_n 0 dX12_table_123 rfl rfl ?_
          refine Z_get (T := TX12) (N := 30) (ci := 12) (t := 2) 22 dX12_table_124 la_211 (z_leN la_211 (by decide)) rfl (by decide) inX12 (by decide) (flX12_57 rfl) rfl ?_
          refine Z_top (y := 225) ((Fix.get (Fix.upA g14 la_225 (by decide)) la_211 22 14 (by decide +kernel)).trans (by clear h; omega)) ?_
          refine Z_iconst dX12_table_127 ?_
          refine Z_iald dX12_table_128 la_225 (z_leN la_225 (by decide)) (by decide) (by decide) ?_
          refine Z_iadd dX12_table_129 ?_
          refine Z_istore_n (L' := [(2, 211), (0, x1), (0, x2), (0, (1 + ((z_up σ13 225 x4 (σ 215 ((60 * x1) + x4))) 225 0))), (0, x4), (1, (σ 215 ((60 * x1) + x4))), (9, 0)]) 3 dX12_table_130 rfl (Nat.le_of_ble_eq_true rfl) rfl ?_
          refine Z_iinc (L' := [(2, 211), (0, x1), (0, x2), (0, (1 + ((z_up σ13 225 x4 (σ 215 ((60 * x1) + x4))) 225 0))), (0, (x4 + 1)), (1, (σ 215 ((60 * x1) + x4))), (9, 0)]) dX12_table_131 rfl (Nat.le_of_ble_eq_true rfl) rfl ?_
          refine Z_goto (tgt := 48) dX12_table_134 (by decide) ?_
          exact Z_few (z_few_k (z_few_k (z_few_k (z_few_k (z_few_k (z_few_d (z_few_k z_few_0))))))) h
        · replace h := h.2 c
          refine Z_goto (tgt := 109) dX12_table_94 (by decide) ?_
          refine Z_bipush dX12_table_109 (by decide) ?_
          exact Z_ireturn dX12_table_111 rfl rfl ⟨rfl, h⟩
    · replace h := h.2 c
      refine Z_bipush dX12_table_60 (by decide) ?_
      exact Z_ireturn dX12_table_62 rfl rfl ⟨rfl, h⟩
theorem bk_X12_table_140 {X : ZS} {σ : ZM} {T : Int → ZM → Prop} {x4 : Int} (h : (r32 x4) ∧ ((80 < x4) → T (((σ 211 9) + 1) - 1) (z_up σ 211 9 ((σ 211 9) + 1))) ∧ ((¬ (80 < x4)) → (Fix σ) ∧ ((¬ x4 = 0) → (r32 (σ 225 0)) ∧ (((σ 225 0) ≤ x4) → (0 ≤ (σ 225 0)) ∧ ((σ 225 0) < 60) ∧ (0 ≤ ((81 * (σ 211 9)) + x4)) ∧ (((81 * (σ 211 9)) + x4) < 486) ∧ Z X (rX12_table zN) mX12_table 140 [(2, 211), (9, 0), (9, 0), (9, 0), (0, (x4 + 1)), (9, 0), (9, 0)] [] zN (z_up σ 220 ((81 * (σ 211 9)) + x4) (σ 225 (σ 225 0))) (zQi T)) ∧ ((¬ ((σ 225 0) ≤ x4)) → (0 ≤ x4) ∧ (x4 < 60) ∧ (0 ≤ ((81 * (σ 211 9)) + x4)) ∧ (((81 * (σ 211 9)) + x4) < 486) ∧ Z X (rX12_table zN) mX12_table 140 [(2, 211), (9, 0), (9, 0), (9, 0), (0, (x4 + 1)), (9, 0), (9, 0)] [] zN (z_up σ 220 ((81 * (σ 211 9)) + x4) (σ 225 x4)) (zQi T))) ∧ ((x4 = 0) → (0 ≤ ((81 * (σ 211 9)) + x4)) ∧ (((81 * (σ 211 9)) + x4) < 486) ∧ Z X (rX12_table zN) mX12_table 140 [(2, 211), (9, 0), (9, 0), (9, 0), (0, (x4 + 1)), (9, 0), (9, 0)] [] zN (z_up σ 220 ((81 * (σ 211 9)) + x4) 0) (zQi T)))) : Z X (rX12_table zN) mX12_table 140 [(2, 211), (9, 0), (9, 0), (9, 0), (0, x4), (9, 0), (9, 0)] [] zN σ (zQi T) := by
  refine Z_iload dX12_table_140 rfl ?_
  refine Z_bipush dX12_table_142 (by decide) ?_
  obtain ⟨g1, h⟩ := h
  refine Z_icmp_gt (tgt := 204) dX12_table_144 (by decide) g1 ⟨by decide, by decide⟩ (fun c => ?_) (fun c => ?_)
  · replace h := h.1 c
    refine Z_aload_n 0 dX12_table_204 rfl rfl ?_
    refine Z_dup dX12_table_205 (by simp) ?_
    refine Z_get (T := TX12) (N := 30) (ci := 12) (t := 0) 9 dX12_table_206 la_211 (z_leN la_211 (by decide)) rfl (by decide) inX12 (by decide) (flX12_193 rfl) rfl ?_
    refine Z_iconst dX12_table_209 ?_
    refine Z_iadd dX12_table_210 ?_
    refine Z_put (T := TX12) (N := 30) (ci := 12) (t := 0) tyX12 9 dX12_table_211 la_211 (z_leN la_211 (by decide)) rfl (by decide) inX12 (by decide) (plX12_193 rfl) rfl tyX12_ok nmX12 rfl (z_nf_i _) ?_
    refine Z_aload_n 0 dX12_table_214 rfl rfl ?_
    refine Z_get (T := TX12) (N := 30) (ci := 12) (t := 0) 9 dX12_table_215 la_211 (z_leN la_211 (by decide)) rfl (by decide) inX12 (by decide) (flX12_193 rfl) rfl ?_
    refine Z_top (z_up_same _ _ _ _) ?_
    refine Z_iconst dX12_table_218 ?_
    refine Z_isub dX12_table_219 ?_
    exact Z_ireturn dX12_table_220 rfl rfl ⟨rfl, h⟩
  · replace h := h.2 c
    refine Z_aload_n 0 dX12_table_147 rfl rfl ?_
    obtain ⟨g2, h⟩ := h
    refine Z_get (T := TX12) (N := 30) (ci := 12) (t := 2) 10 dX12_table_148 la_211 (z_leN la_211 (by decide)) rfl (by decide) inX12 (by decide) (flX12_35 rfl) rfl ?_
    refine Z_top (y := 220) ((Fix.get g2 la_211 10 9 (by decide +kernel)).trans (by clear h; omega)) ?_
    refine Z_bipush dX12_table_151 (by decide) ?_
    refine Z_aload_n 0 dX12_table_153 rfl rfl ?_
    refine Z_get (T := TX12) (N := 30) (ci := 12) (t := 0) 9 dX12_table_154 la_211 (z_leN la_211 (by decide)) rfl (by decide) inX12 (by decide) (flX12_193 rfl) rfl ?_
    refine Z_imul dX12_table_157 ?_
    refine Z_iload dX12_table_158 rfl ?_
    refine Z_iadd dX12_table_160 ?_
    refine Z_iload dX12_table_161 rfl ?_
    refine Z_if_ne (tgt := 170) dX12_table_163 (by decide) g1 (fun c => ?_) (fun c => ?_)
    · replace h := h.1 c
      refine Z_aload_n 0 dX12_table_170 rfl rfl ?_
      refine Z_get (T := TX12) (N := 30) (ci := 12) (t := 2) 22 dX12_table_171 la_211 (z_leN la_211 (by decide)) rfl (by decide) inX12 (by decide) (flX12_57 rfl) rfl ?_
      refine Z_top (y := 225) ((Fix.get g2 la_211 22 14 (by decide +kernel)).trans (by clear h; omega)) ?_
      refine Z_iload dX12_table_174 rfl ?_
      refine Z_aload_n 0 dX12_table_176 rfl rfl ?_
      refine Z_get (T := TX12) (N := 30) (ci := 12) (t := 2) 22 dX12_table_177 la_211 (z_leN la_211 (by decide)) rfl (by decide) inX12 (by decide) (flX12_57 rfl) rfl ?_
      refine Z_top (y := 225) ((Fix.get g2 la_211 22 14 (by decide +kernel)).trans (by clear h; omega)) ?_
      refine Z_iconst dX12_table_180 ?_
      refine Z_iald dX12_table_181 la_225 (z_leN la_225 (by decide)) (by decide) (by decide) ?_
      obtain ⟨g3, h⟩ := h
      refine Z_icmp_ge (tgt := 190) dX12_table_182 (by decide) g1 g3 (fun c => ?_) (fun c => ?_)
      · replace h := h.1 c
        refine Z_aload_n 0 dX12_table_190 rfl rfl ?_
        refine Z_get (T := TX12) (N := 30) (ci := 12) (t := 2) 22 dX12_table_191 la_211 (z_leN la_211 (by decide)) rfl (by decide) inX12 (by decide) (flX12_57 rfl) rfl ?_
        refine Z_top (y := 225) ((Fix.get g2 la_211 22 14 (by decide +kernel)).trans (by clear h; omega)) ?_
        refine Z_iconst dX12_table_194 ?_
        refine Z_iald dX12_table_195 la_225 (z_leN la_225 (by decide)) (by decide) (by decide) ?_
        obtain ⟨g4, h⟩ := h
        obtain ⟨g5, h⟩ := h
        refine Z_iald dX12_table_196 la_225 (z_leN la_225 (by decide)) g4 g5 ?_
        obtain ⟨g6, h⟩ := h
        obtain ⟨g7, h⟩ := h
        refine Z_iast dX12_table_197 la_220 (z_leN la_220 (by decide)) g6 g7 ?_
        refine Z_iinc (L' := [(2, 211), (9, 0), (9, 0), (9, 0), (0, (x4 + 1)), (9, 0), (9, 0)]) dX12_table_198 rfl (Nat.le_of_ble_eq_true rfl) rfl ?_
        refine Z_goto (tgt := 140) dX12_table_201 (by decide) ?_
        exact Z_few (z_few_k (z_few_k (z_few_k (z_few_k (z_few_k (z_few_k (z_few_k z_few_0))))))) h
      · replace h := h.2 c
        refine Z_iload dX12_table_185 rfl ?_
        refine Z_goto (tgt := 196) dX12_table_187 (by decide) ?_
        obtain ⟨g8, h⟩ := h
        obtain ⟨g9, h⟩ := h
        refine Z_iald dX12_table_196 la_225 (z_leN la_225 (by decide)) g8 g9 ?_
        obtain ⟨g10, h⟩ := h
        obtain ⟨g11, h⟩ := h
        refine Z_iast dX12_table_197 la_220 (z_leN la_220 (by decide)) g10 g11 ?_
        refine Z_iinc (L' := [(2, 211), (9, 0), (9, 0), (9, 0), (0, (x4 + 1)), (9, 0), (9, 0)]) dX12_table_198 rfl (Nat.le_of_ble_eq_true rfl) rfl ?_
        refine Z_goto (tgt := 140) dX12_table_201 (by decide) ?_
        exact Z_few (z_few_k (z_few_k (z_few_k (z_few_k (z_few_k (z_few_k (z_few_k z_few_0))))))) h
    · replace h := h.2 c
      refine Z_iconst dX12_table_166 ?_
      refine Z_goto (tgt := 197) dX12_table_167 (by decide) ?_
      obtain ⟨g12, h⟩ := h
      obtain ⟨g13, h⟩ := h
      refine Z_iast dX12_table_197 la_220 (z_leN la_220 (by decide)) g12 g13 ?_
      refine Z_iinc (L' := [(2, 211), (9, 0), (9, 0), (9, 0), (0, (x4 + 1)), (9, 0), (9, 0)]) dX12_table_198 rfl (Nat.le_of_ble_eq_true rfl) rfl ?_
      refine Z_goto (tgt := 140) dX12_table_201 (by decide) ?_
      exact Z_few (z_few_k (z_few_k (z_few_k (z_few_k (z_few_k (z_few_k (z_few_k z_few_0))))))) h
theorem bk_X12_sum {X : ZS} {σ : ZM} {T : Int → ZM → Prop} {x1 : Int} {x2 : Int} (h : ZC X (rX12_isLaw zN) mX12_isLaw [(2, 211), (0, x1)] zN σ (zQz (fun r1 σ2 => ((r1 = false) → T (-2) σ2) ∧ ((r1 = true) → ZC X (rX12_isLaw zN) mX12_isLaw [(2, 211), (0, x2)] zN σ2 (zQz (fun r3 σ4 => ((r3 = true) → (r32 (σ4 211 9)) ∧ ((¬ (σ4 211 9) = 6) → Z X (rX12_sum zN) mX12_sum 33 [(2, 211), (0, x1), (0, x2), (0, 0)] [] zN σ4 (zQi T)) ∧ (((σ4 211 9) = 6) → T (-8) σ4)) ∧ ((r3 = false) → T (-2) σ4))))))) : ZC X (rX12_sum zN) mX12_sum [(2, 211), (0, x1), (0, x2)] zN σ (zQi T) := by
  show Z X _ _ 0 [(2, 211), (0, x1), (0, x2), (9, 0)] [] _ σ _
  refine Z_aload_n 0 dX12_sum_0 rfl rfl ?_
  refine Z_iload_n 1 dX12_sum_1 rfl rfl ?_
  refine Z_invV (T := TX12) (N := 30) (ci := 12) (M' := mX12_isLaw) (ρ' := rX12_isLaw zN) (st := []) [(0, x1)] dX12_sum_2 rfl rfl la_211 (z_leN la_211 (by decide)) (by decide) rfl rfl (kX12_isLaw.cl (Nat.le_of_ble_eq_true rfl) (Nat.le_refl _) (Nat.le_refl _) (Nat.le_of_ble_eq_true rfl) (Nat.le_of_ble_eq_true rfl) (Nat.le_of_ble_eq_true rfl)) (mlX12_200 rfl) iX12_isLaw sX12_isLaw h (z_kz (fun r1 σ2 h => ?_))
  refine Z_zif_eq (tgt := 16) dX12_sum_5 (by decide) (fun c => ?_) (fun c => ?_)
  · replace h := h.1 c
    refine Z_bipush dX12_sum_16 (by decide) ?_
    exact Z_ireturn dX12_sum_18 rfl rfl ⟨rfl, h⟩
  · replace h := h.2 c
    refine Z_aload_n 0 dX12_sum_8 rfl rfl ?_
    refine Z_iload_n 2 dX12_sum_9 rfl rfl ?_
    refine Z_invV (T := TX12) (N := 30) (ci := 12) (M' := mX12_isLaw) (ρ' := rX12_isLaw zN) (st := []) [(0, x2)] dX12_sum_10 rfl rfl la_211 (z_leN la_211 (by decide)) (by decide) rfl rfl (kX12_isLaw.cl (Nat.le_of_ble_eq_true rfl) (Nat.le_refl _) (Nat.le_refl _) (Nat.le_of_ble_eq_true rfl) (Nat.le_of_ble_eq_true rfl) (Nat.le_of_ble_eq_true rfl)) (mlX12_200 rfl) iX12_isLaw sX12_isLaw h (z_kz (fun r3 σ4 h => ?_))
    refine Z_zif_ne (tgt := 19) dX12_sum_13 (by decide) (fun c => ?_) (fun c => ?_)
    · replace h := h.1 c
      refine Z_aload_n 0 dX12_sum_19 rfl rfl ?_
      refine Z_get (T := TX12) (N := 30) (ci := 12) (t := 0) 9 dX12_sum_20 la_211 (z_leN la_211 (by decide)) rfl (by decide) inX12 (by decide) (flX12_193 rfl) rfl ?_
      refine Z_bipush dX12_sum_23 (by decide) ?_
      obtain ⟨g5, h⟩ := h
      refine Z_icmp_ne (tgt := 31) dX12_sum_25 (by decide) g5 ⟨by decide, by decide⟩ (fun c => ?_) (fun c => ?_)
      · replace h := h.1 c
        refine Z_iconst dX12_sum_31 ?_
        refine Z_istore_n (L' := [(2, 211), (0, x1), (0, x2), (0, 0)]) 3 dX12_sum_32 rfl (Nat.le_of_ble_eq_true rfl) rfl ?_
        exact Z_few (z_few_k (z_few_k (z_few_k (z_few_k z_few_0)))) h
      · replace h := h.2 c
        refine Z_bipush dX12_sum_28 (by decide) ?_
        exact Z_ireturn dX12_sum_30 rfl rfl ⟨rfl, h⟩
    · replace h := h.2 c
      refine Z_bipush dX12_sum_16 (by decide) ?_
      exact Z_ireturn dX12_sum_18 rfl rfl ⟨rfl, h⟩
theorem bk_X12_sum_33 {X : ZS} {σ : ZM} {T : Int → ZM → Prop} {x1 : Int} {x2 : Int} {x3 : Int} (h : (r32 x3) ∧ ((80 < x3) → Z X (rX12_sum zN) mX12_sum 79 [(2, 211), (0, x1), (0, x2), (0, 0)] [] zN σ (zQi T)) ∧ ((¬ (80 < x3)) → (Fix σ) ∧ (0 ≤ ((81 * x1) + x3)) ∧ (((81 * x1) + x3) < 486) ∧ (0 ≤ ((81 * x2) + x3)) ∧ (((81 * x2) + x3) < 486) ∧ (r32 ((σ 220 ((81 * x1) + x3)) + (σ 220 ((81 * x2) + x3)))) ∧ ((((σ 220 ((81 * x1) + x3)) + (σ 220 ((81 * x2) + x3))) ≤ 16000) → Z X (rX12_sum zN) mX12_sum 33 [(2, 211), (0, x1), (0, x2), (0, (x3 + 1))] [] zN σ (zQi T)) ∧ ((¬ (((σ 220 ((81 * x1) + x3)) + (σ 220 ((81 * x2) + x3))) ≤ 16000)) → T (-4) σ))) : Z X (rX12_sum zN) mX12_sum 33 [(2, 211), (0, x1), (0, x2), (0, x3)] [] zN σ (zQi T) := by
  refine Z_iload_n 3 dX12_sum_33 rfl rfl ?_
  refine Z_bipush dX12_sum_34 (by decide) ?_
  obtain ⟨g1, h⟩ := h
  refine Z_icmp_gt (tgt := 77) dX12_sum_36 (by decide) g1 ⟨by decide, by decide⟩ (fun c => ?_) (fun c => ?_)
  · replace h := h.1 c
    refine Z_iconst dX12_sum_77 ?_
    refine Z_istore_n (L' := [(2, 211), (0, x1), (0, x2), (0, 0)]) 3 dX12_sum_78 rfl (Nat.le_of_ble_eq_true rfl) rfl ?_
    exact Z_few (z_few_k (z_few_k (z_few_k (z_few_k z_few_0)))) h
  · replace h := h.2 c
    refine Z_aload_n 0 dX12_sum_39 rfl rfl ?_
    obtain ⟨g2, h⟩ := h
    refine Z_get (T := TX12) (N := 30) (ci := 12) (t := 2) 10 dX12_sum_40 la_211 (z_leN la_211 (by decide)) rfl (by decide) inX12 (by decide) (flX12_35 rfl) rfl ?_
    refine Z_top (y := 220) ((Fix.get g2 la_211 10 9 (by decide +kernel)).trans (by clear h; omega)) ?_
    refine Z_bipush dX12_sum_43 (by decide) ?_
    refine Z_iload_n 1 dX12_sum_45 rfl rfl ?_
    refine Z_imul dX12_sum_46 ?_
    refine Z_iload_n 3 dX12_sum_47 rfl rfl ?_
    refine Z_iadd dX12_sum_48 ?_
    obtain ⟨g3, h⟩ := h
    obtain ⟨g4, h⟩ := h
    refine Z_iald dX12_sum_49 la_220 (z_leN la_220 (by decide)) g3 g4 ?_
    refine Z_aload_n 0 dX12_sum_50 rfl rfl ?_
    refine Z_get (T := TX12) (N := 30) (ci := 12) (t := 2) 10 dX12_sum_51 la_211 (z_leN la_211 (by decide)) rfl (by decide) inX12 (by decide) (flX12_35 rfl) rfl ?_
    refine Z_top (y := 220) ((Fix.get g2 la_211 10 9 (by decide +kernel)).trans (by clear h; omega)) ?_
    refine Z_bipush dX12_sum_54 (by decide) ?_
    refine Z_iload_n 2 dX12_sum_56 rfl rfl ?_
    refine Z_imul dX12_sum_57 ?_
    refine Z_iload_n 3 dX12_sum_58 rfl rfl ?_
    refine Z_iadd dX12_sum_59 ?_
    obtain ⟨g5, h⟩ := h
    obtain ⟨g6, h⟩ := h
    refine Z_iald dX12_sum_60 la_220 (z_leN la_220 (by decide)) g5 g6 ?_
    refine Z_iadd dX12_sum_61 ?_
    refine Z_sipush dX12_sum_62 (by decide) ?_
    obtain ⟨g7, h⟩ := h
    refine Z_icmp_le (tgt := 71) dX12_sum_65 (by decide) g7 ⟨by decide, by decide⟩ (fun c => ?_) (fun c => ?_)
    · replace h := h.1 c
      refine Z_iinc (L' := [(2, 211), (0, x1), (0, x2), (0, (x3 + 1))]) dX12_sum_71 rfl (Nat.le_of_ble_eq_true rfl) rfl ?_
      refine Z_goto (tgt := 33) dX12_sum_74 (by decide) ?_
      exact Z_few (z_few_k (z_few_k (z_few_k (z_few_k z_few_0)))) h
    · replace h := h.2 c
      refine Z_bipush dX12_sum_68 (by decide) ?_
      exact Z_ireturn dX12_sum_70 rfl rfl ⟨rfl, h⟩
theorem bk_X12_sum_79 {X : ZS} {σ : ZM} {T : Int → ZM → Prop} {x1 : Int} {x2 : Int} {x3 : Int} (h : (r32 x3) ∧ ((80 < x3) → T (((σ 211 9) + 1) - 1) (z_up σ 211 9 ((σ 211 9) + 1))) ∧ ((¬ (80 < x3)) → (Fix σ) ∧ (0 ≤ ((81 * x1) + x3)) ∧ (((81 * x1) + x3) < 486) ∧ (0 ≤ ((81 * x2) + x3)) ∧ (((81 * x2) + x3) < 486) ∧ (0 ≤ ((81 * (σ 211 9)) + x3)) ∧ (((81 * (σ 211 9)) + x3) < 486) ∧ Z X (rX12_sum zN) mX12_sum 79 [(2, 211), (0, x1), (0, x2), (0, (x3 + 1))] [] zN (z_up σ 220 ((81 * (σ 211 9)) + x3) ((σ 220 ((81 * x1) + x3)) + (σ 220 ((81 * x2) + x3)))) (zQi T))) : Z X (rX12_sum zN) mX12_sum 79 [(2, 211), (0, x1), (0, x2), (0, x3)] [] zN σ (zQi T) := by
  refine Z_iload_n 3 dX12_sum_79 rfl rfl ?_
  refine Z_bipush dX12_sum_80 (by decide) ?_
  obtain ⟨g1, h⟩ := h
  refine Z_icmp_gt (tgt := 128) dX12_sum_82 (by decide) g1 ⟨by decide, by decide⟩ (fun c => ?_) (fun c => ?_)
  · replace h := h.1 c
    refine Z_aload_n 0 dX12_sum_128 rfl rfl ?_
    refine Z_dup dX12_sum_129 (by simp) ?_
    refine Z_get (T := TX12) (N := 30) (ci := 12) (t := 0) 9 dX12_sum_130 la_211 (z_leN la_211 (by decide)) rfl (by decide) inX12 (by decide) (flX12_193 rfl) rfl ?_
    refine Z_iconst dX12_sum_133 ?_
    refine Z_iadd dX12_sum_134 ?_
    refine Z_put (T := TX12) (N := 30) (ci := 12) (t := 0) tyX12 9 dX12_sum_135 la_211 (z_leN la_211 (by decide)) rfl (by decide) inX12 (by decide) (plX12_193 rfl) rfl tyX12_ok nmX12 rfl (z_nf_i _) ?_
    refine Z_aload_n 0 dX12_sum_138 rfl rfl ?_
    refine Z_get (T := TX12) (N := 30) (ci := 12) (t := 0) 9 dX12_sum_139 la_211 (z_leN la_211 (by decide)) rfl (by decide) inX12 (by decide) (flX12_193 rfl) rfl ?_
    refine Z_top (z_up_same _ _ _ _) ?_
    refine Z_iconst dX12_sum_142 ?_
    refine Z_isub dX12_sum_143 ?_
    exact Z_ireturn dX12_sum_144 rfl rfl ⟨rfl, h⟩
  · replace h := h.2 c
    refine Z_aload_n 0 dX12_sum_85 rfl rfl ?_
    obtain ⟨g2, h⟩ := h
    refine Z_get (T := TX12) (N := 30) (ci := 12) (t := 2) 10 dX12_sum_86 la_211 (z_leN la_211 (by decide)) rfl (by decide) inX12 (by decide) (flX12_35 rfl) rfl ?_
    refine Z_top (y := 220) ((Fix.get g2 la_211 10 9 (by decide +kernel)).trans (by clear h; omega)) ?_
    refine Z_bipush dX12_sum_89 (by decide) ?_
    refine Z_aload_n 0 dX12_sum_91 rfl rfl ?_
    refine Z_get (T := TX12) (N := 30) (ci := 12) (t := 0) 9 dX12_sum_92 la_211 (z_leN la_211 (by decide)) rfl (by decide) inX12 (by decide) (flX12_193 rfl) rfl ?_
    refine Z_imul dX12_sum_95 ?_
    refine Z_iload_n 3 dX12_sum_96 rfl rfl ?_
    refine Z_iadd dX12_sum_97 ?_
    refine Z_aload_n 0 dX12_sum_98 rfl rfl ?_
    refine Z_get (T := TX12) (N := 30) (ci := 12) (t := 2) 10 dX12_sum_99 la_211 (z_leN la_211 (by decide)) rfl (by decide) inX12 (by decide) (flX12_35 rfl) rfl ?_
    refine Z_top (y := 220) ((Fix.get g2 la_211 10 9 (by decide +kernel)).trans (by clear h; omega)) ?_
    refine Z_bipush dX12_sum_102 (by decide) ?_
    refine Z_iload_n 1 dX12_sum_104 rfl rfl ?_
    refine Z_imul dX12_sum_105 ?_
    refine Z_iload_n 3 dX12_sum_106 rfl rfl ?_
    refine Z_iadd dX12_sum_107 ?_
    obtain ⟨g3, h⟩ := h
    obtain ⟨g4, h⟩ := h
    refine Z_iald dX12_sum_108 la_220 (z_leN la_220 (by decide)) g3 g4 ?_
    refine Z_aload_n 0 dX12_sum_109 rfl rfl ?_
    refine Z_get (T := TX12) (N := 30) (ci := 12) (t := 2) 10 dX12_sum_110 la_211 (z_leN la_211 (by decide)) rfl (by decide) inX12 (by decide) (flX12_35 rfl) rfl ?_
    refine Z_top (y := 220) ((Fix.get g2 la_211 10 9 (by decide +kernel)).trans (by clear h; omega)) ?_
    refine Z_bipush dX12_sum_113 (by decide) ?_
    refine Z_iload_n 2 dX12_sum_115 rfl rfl ?_
    refine Z_imul dX12_sum_116 ?_
    refine Z_iload_n 3 dX12_sum_117 rfl rfl ?_
    refine Z_iadd dX12_sum_118 ?_
    obtain ⟨g5, h⟩ := h
    obtain ⟨g6, h⟩ := h
    refine Z_iald dX12_sum_119 la_220 (z_leN la_220 (by decide)) g5 g6 ?_
    refine Z_iadd dX12_sum_120 ?_
    obtain ⟨g7, h⟩ := h
    obtain ⟨g8, h⟩ := h
    refine Z_iast dX12_sum_121 la_220 (z_leN la_220 (by decide)) g7 g8 ?_
    refine Z_iinc (L' := [(2, 211), (0, x1), (0, x2), (0, (x3 + 1))]) dX12_sum_122 rfl (Nat.le_of_ble_eq_true rfl) rfl ?_
    refine Z_goto (tgt := 79) dX12_sum_125 (by decide) ?_
    exact Z_few (z_few_k (z_few_k (z_few_k (z_few_k z_few_0)))) h
theorem bk_X12_unlike {X : ZS} {σ : ZM} {T : Int → ZM → Prop} {x1 : Int} {x2 : Int} (h : ZC X (rX12_isLaw zN) mX12_isLaw [(2, 211), (0, x1)] zN σ (zQz (fun r1 σ2 => ((r1 = false) → T (-1) σ2) ∧ ((r1 = true) → (r32 x2) ∧ ((x2 < 0) → T (-1) σ2) ∧ ((¬ (x2 < 0)) → ((80 < x2) → T (-1) σ2) ∧ ((¬ (80 < x2)) → (Fix σ2) ∧ (0 ≤ ((81 * x1) + x2)) ∧ (((81 * x1) + x2) < 486) ∧ T (σ2 220 ((81 * x1) + x2)) σ2)))))) : ZC X (rX12_unlike zN) mX12_unlike [(2, 211), (0, x1), (0, x2)] zN σ (zQi T) := by
  show Z X _ _ 0 [(2, 211), (0, x1), (0, x2)] [] _ σ _
  refine Z_aload_n 0 dX12_unlike_0 rfl rfl ?_
  refine Z_iload_n 1 dX12_unlike_1 rfl rfl ?_
  refine Z_invV (T := TX12) (N := 30) (ci := 12) (M' := mX12_isLaw) (ρ' := rX12_isLaw zN) (st := []) [(0, x1)] dX12_unlike_2 rfl rfl la_211 (z_leN la_211 (by decide)) (by decide) rfl rfl (kX12_isLaw.cl (Nat.le_of_ble_eq_true rfl) (Nat.le_refl _) (Nat.le_refl _) (Nat.le_of_ble_eq_true rfl) (Nat.le_of_ble_eq_true rfl) (Nat.le_of_ble_eq_true rfl)) (mlX12_200 rfl) iX12_isLaw sX12_isLaw h (z_kz (fun r1 σ2 h => ?_))
  refine Z_zif_eq (tgt := 32) dX12_unlike_5 (by decide) (fun c => ?_) (fun c => ?_)
  · replace h := h.1 c
    refine Z_iconst dX12_unlike_32 ?_
    exact Z_ireturn dX12_unlike_33 rfl rfl ⟨rfl, h⟩
  · replace h := h.2 c
    refine Z_iload_n 2 dX12_unlike_8 rfl rfl ?_
    obtain ⟨g3, h⟩ := h
    refine Z_if_lt (tgt := 32) dX12_unlike_9 (by decide) g3 (fun c => ?_) (fun c => ?_)
    · replace h := h.1 c
      refine Z_iconst dX12_unlike_32 ?_
      exact Z_ireturn dX12_unlike_33 rfl rfl ⟨rfl, h⟩
    · replace h := h.2 c
      refine Z_iload_n 2 dX12_unlike_12 rfl rfl ?_
      refine Z_bipush dX12_unlike_13 (by decide) ?_
      refine Z_icmp_gt (tgt := 32) dX12_unlike_15 (by decide) g3 ⟨by decide, by decide⟩ (fun c => ?_) (fun c => ?_)
      · replace h := h.1 c
        refine Z_iconst dX12_unlike_32 ?_
        exact Z_ireturn dX12_unlike_33 rfl rfl ⟨rfl, h⟩
      · replace h := h.2 c
        refine Z_aload_n 0 dX12_unlike_18 rfl rfl ?_
        obtain ⟨g4, h⟩ := h
        refine Z_get (T := TX12) (N := 30) (ci := 12) (t := 2) 10 dX12_unlike_19 la_211 (z_leN la_211 (by decide)) rfl (by decide) inX12 (by decide) (flX12_35 rfl) rfl ?_
        refine Z_top (y := 220) ((Fix.get g4 la_211 10 9 (by decide +kernel)).trans (by clear h; omega)) ?_
        refine Z_bipush dX12_unlike_22 (by decide) ?_
        refine Z_iload_n 1 dX12_unlike_24 rfl rfl ?_
        refine Z_imul dX12_unlike_25 ?_
        refine Z_iload_n 2 dX12_unlike_26 rfl rfl ?_
        refine Z_iadd dX12_unlike_27 ?_
        obtain ⟨g5, h⟩ := h
        obtain ⟨g6, h⟩ := h
        refine Z_iald dX12_unlike_28 la_220 (z_leN la_220 (by decide)) g5 g6 ?_
        refine Z_goto (tgt := 33) dX12_unlike_29 (by decide) ?_
        exact Z_ireturn dX12_unlike_33 rfl rfl ⟨rfl, h⟩
theorem bk_X12_use {X : ZS} {σ : ZM} {T : Bool → ZM → Prop} {x1 : Int} (h : (r32 x1) ∧ ((x1 = (-1)) → T true (z_up (z_up σ 211 11 x1) 211 13 0)) ∧ ((¬ x1 = (-1)) → ZC X (rX12_isLaw zN) mX12_isLaw [(2, 211), (0, x1)] zN σ (zQz (fun r2 σ3 => ((r2 = true) → T true (z_up (z_up σ3 211 11 x1) 211 13 0)) ∧ ((r2 = false) → T false σ3))))) : ZC X (rX12_use zN) mX12_use [(2, 211), (0, x1)] zN σ (zQz T) := by
  show Z X _ _ 0 [(2, 211), (0, x1)] [] _ σ _
  refine Z_iload_n 1 dX12_use_0 rfl rfl ?_
  refine Z_iconst dX12_use_1 ?_
  obtain ⟨g1, h⟩ := h
  refine Z_icmp_eq (tgt := 15) dX12_use_2 (by decide) g1 ⟨by decide, by decide⟩ (fun c => ?_) (fun c => ?_)
  · replace h := h.1 c
    refine Z_aload_n 0 dX12_use_15 rfl rfl ?_
    refine Z_iload_n 1 dX12_use_16 rfl rfl ?_
    refine Z_put (T := TX12) (N := 30) (ci := 12) (t := 0) tyX12 11 dX12_use_17 la_211 (z_leN la_211 (by decide)) rfl (by decide) inX12 (by decide) (plX12_38 rfl) rfl tyX12_ok nmX12 rfl (z_nf_i _) ?_
    refine Z_aload_n 0 dX12_use_20 rfl rfl ?_
    refine Z_iconst dX12_use_21 ?_
    refine Z_put (T := TX12) (N := 30) (ci := 12) (t := 0) tyX12 13 dX12_use_22 la_211 (z_leN la_211 (by decide)) rfl (by decide) inX12 (by decide) (plX12_186 rfl) rfl tyX12_ok nmX12 rfl (z_nf_z (Or.inl rfl)) ?_
    refine Z_iconst dX12_use_25 ?_
    exact Z_zreturn dX12_use_26 rfl (Or.inr rfl) rfl ⟨rfl, true, rfl, h⟩
  · replace h := h.2 c
    refine Z_aload_n 0 dX12_use_5 rfl rfl ?_
    refine Z_iload_n 1 dX12_use_6 rfl rfl ?_
    refine Z_invV (T := TX12) (N := 30) (ci := 12) (M' := mX12_isLaw) (ρ' := rX12_isLaw zN) (st := []) [(0, x1)] dX12_use_7 rfl rfl la_211 (z_leN la_211 (by decide)) (by decide) rfl rfl (kX12_isLaw.cl (Nat.le_of_ble_eq_true rfl) (Nat.le_refl _) (Nat.le_refl _) (Nat.le_of_ble_eq_true rfl) (Nat.le_of_ble_eq_true rfl) (Nat.le_of_ble_eq_true rfl)) (mlX12_200 rfl) iX12_isLaw sX12_isLaw h (z_kz (fun r2 σ3 h => ?_))
    refine Z_zif_ne (tgt := 15) dX12_use_10 (by decide) (fun c => ?_) (fun c => ?_)
    · replace h := h.1 c
      refine Z_aload_n 0 dX12_use_15 rfl rfl ?_
      refine Z_iload_n 1 dX12_use_16 rfl rfl ?_
      refine Z_put (T := TX12) (N := 30) (ci := 12) (t := 0) tyX12 11 dX12_use_17 la_211 (z_leN la_211 (by decide)) rfl (by decide) inX12 (by decide) (plX12_38 rfl) rfl tyX12_ok nmX12 rfl (z_nf_i _) ?_
      refine Z_aload_n 0 dX12_use_20 rfl rfl ?_
      refine Z_iconst dX12_use_21 ?_
      refine Z_put (T := TX12) (N := 30) (ci := 12) (t := 0) tyX12 13 dX12_use_22 la_211 (z_leN la_211 (by decide)) rfl (by decide) inX12 (by decide) (plX12_186 rfl) rfl tyX12_ok nmX12 rfl (z_nf_z (Or.inl rfl)) ?_
      refine Z_iconst dX12_use_25 ?_
      exact Z_zreturn dX12_use_26 rfl (Or.inr rfl) rfl ⟨rfl, true, rfl, h⟩
    · replace h := h.2 c
      refine Z_iconst dX12_use_13 ?_
      exact Z_zreturn dX12_use_14 rfl (Or.inl rfl) rfl ⟨rfl, false, rfl, h⟩
theorem bk_X12_nearest {X : ZS} {σ : ZM} {T : Bool → ZM → Prop} {x1 : Int} (h : (r32 x1) ∧ ((x1 < 1) → T false σ) ∧ ((¬ (x1 < 1)) → ((x1 ≤ 8) → T true (z_up σ 211 12 x1)) ∧ ((¬ (x1 ≤ 8)) → T false σ))) : ZC X (rX12_nearest zN) mX12_nearest [(2, 211), (0, x1)] zN σ (zQz T) := by
  show Z X _ _ 0 [(2, 211), (0, x1)] [] _ σ _
  refine Z_iload_n 1 dX12_nearest_0 rfl rfl ?_
  refine Z_iconst dX12_nearest_1 ?_
  obtain ⟨g1, h⟩ := h
  refine Z_icmp_lt (tgt := 11) dX12_nearest_2 (by decide) g1 ⟨by decide, by decide⟩ (fun c => ?_) (fun c => ?_)
  · replace h := h.1 c
    refine Z_iconst dX12_nearest_11 ?_
    exact Z_zreturn dX12_nearest_12 rfl (Or.inl rfl) rfl ⟨rfl, false, rfl, h⟩
  · replace h := h.2 c
    refine Z_iload_n 1 dX12_nearest_5 rfl rfl ?_
    refine Z_bipush dX12_nearest_6 (by decide) ?_
    refine Z_icmp_le (tgt := 13) dX12_nearest_8 (by decide) g1 ⟨by decide, by decide⟩ (fun c => ?_) (fun c => ?_)
    · replace h := h.1 c
      refine Z_aload_n 0 dX12_nearest_13 rfl rfl ?_
      refine Z_iload_n 1 dX12_nearest_14 rfl rfl ?_
      refine Z_put (T := TX12) (N := 30) (ci := 12) (t := 0) tyX12 12 dX12_nearest_15 la_211 (z_leN la_211 (by decide)) rfl (by decide) inX12 (by decide) (plX12_42 rfl) rfl tyX12_ok nmX12 rfl (z_nf_i _) ?_
      refine Z_iconst dX12_nearest_18 ?_
      exact Z_zreturn dX12_nearest_19 rfl (Or.inr rfl) rfl ⟨rfl, true, rfl, h⟩
    · replace h := h.2 c
      refine Z_iconst dX12_nearest_11 ?_
      exact Z_zreturn dX12_nearest_12 rfl (Or.inl rfl) rfl ⟨rfl, false, rfl, h⟩
theorem bk_X12_size {X : ZS} {σ : ZM} {T : Int → ZM → Prop} {x0 : Int} (h : (r32 x0) ∧ ((0 ≤ x0) → T x0 σ) ∧ ((¬ (0 ≤ x0)) → T (-x0) σ)) : ZC X (rX12_size zN) mX12_size [(0, x0)] zN σ (zQi T) := by
  show Z X _ _ 0 [(0, x0)] [] _ σ _
  refine Z_iload_n 0 dX12_size_0 rfl rfl ?_
  obtain ⟨g1, h⟩ := h
  refine Z_if_ge (tgt := 9) dX12_size_1 (by decide) g1 (fun c => ?_) (fun c => ?_)
  · replace h := h.1 c
    refine Z_iload_n 0 dX12_size_9 rfl rfl ?_
    exact Z_ireturn dX12_size_10 rfl rfl ⟨rfl, h⟩
  · replace h := h.2 c
    refine Z_iload_n 0 dX12_size_4 rfl rfl ?_
    refine Z_ineg dX12_size_5 ?_
    refine Z_goto (tgt := 10) dX12_size_6 (by decide) ?_
    exact Z_ireturn dX12_size_10 rfl rfl ⟨rfl, h⟩
theorem bk_X12_way {X : ZS} {σ : ZM} {T : Int → ZM → Prop} {x0 : Int} {x1 : Int} {x2 : Int} {x3 : Int} (h : ZC X (rX12_size zN) mX12_size [(0, (x0 - x2))] zN σ (zQi (fun r1 σ2 => ZC X (rX12_size zN) mX12_size [(0, (x1 - x3))] zN σ2 (zQi (fun r3 σ4 => T (r1 + r3) σ4))))) : ZC X (rX12_way zN) mX12_way [(0, x0), (0, x1), (0, x2), (0, x3)] zN σ (zQi T) := by
  show Z X _ _ 0 [(0, x0), (0, x1), (0, x2), (0, x3)] [] _ σ _
  refine Z_iload_n 0 dX12_way_0 rfl rfl ?_
  refine Z_iload_n 2 dX12_way_1 rfl rfl ?_
  refine Z_isub dX12_way_2 ?_
  refine Z_invS (M' := mX12_size) (ρ' := rX12_size zN) (st := []) [(0, (x0 - x2))] dX12_way_3 rfl rfl (kX12_size.cl (Nat.le_of_ble_eq_true rfl) (Nat.le_refl _) (Nat.le_refl _) (Nat.le_of_ble_eq_true rfl) (Nat.le_of_ble_eq_true rfl) (Nat.le_of_ble_eq_true rfl)) (mlX12_203 rfl) sX12_size h (z_ki (fun r1 σ2 h => ?_))
  refine Z_iload_n 1 dX12_way_6 rfl rfl ?_
  refine Z_iload_n 3 dX12_way_7 rfl rfl ?_
  refine Z_isub dX12_way_8 ?_
  refine Z_invS (M' := mX12_size) (ρ' := rX12_size zN) (st := [(0, r1)]) [(0, (x1 - x3))] dX12_way_9 rfl rfl (kX12_size.cl (Nat.le_of_ble_eq_true rfl) (Nat.le_refl _) (Nat.le_refl _) (Nat.le_of_ble_eq_true rfl) (Nat.le_of_ble_eq_true rfl) (Nat.le_of_ble_eq_true rfl)) (mlX12_203 rfl) sX12_size h (z_ki (fun r3 σ4 h => ?_))
  refine Z_iadd dX12_way_12 ?_
  exact Z_ireturn dX12_way_13 rfl rfl ⟨rfl, h⟩
theorem bk_X12_between {X : ZS} {σ : ZM} {T : Int → ZM → Prop} {x1 : Int} {x2 : Int} {x3 : Int} (h : (Fix σ) ∧ (0 ≤ x2) ∧ (x2 < 8) ∧ (0 ≤ x3) ∧ (x3 < 8) ∧ ZC X (rX12_way zN) mX12_way [(0, (σ 216 x2)), (0, (σ 217 x2)), (0, (σ 216 x3)), (0, (σ 217 x3))] zN σ (zQi (fun r6 σ7 => (0 ≤ ((81 * x1) + r6)) ∧ (((81 * x1) + r6) < 486) ∧ T (σ7 220 ((81 * x1) + r6)) σ7))) : ZC X (rX12_between zN) mX12_between [(2, 211), (0, x1), (0, x2), (0, x3)] zN σ (zQi T) := by
  show Z X _ _ 0 [(2, 211), (0, x1), (0, x2), (0, x3)] [] _ σ _
  refine Z_aload_n 0 dX12_between_0 rfl rfl ?_
  obtain ⟨g1, h⟩ := h
  refine Z_get (T := TX12) (N := 30) (ci := 12) (t := 2) 10 dX12_between_1 la_211 (z_leN la_211 (by decide)) rfl (by decide) inX12 (by decide) (flX12_35 rfl) rfl ?_
  refine Z_top (y := 220) ((Fix.get g1 la_211 10 9 (by decide +kernel)).trans (by clear h; omega)) ?_
  refine Z_bipush dX12_between_4 (by decide) ?_
  refine Z_iload_n 1 dX12_between_6 rfl rfl ?_
  refine Z_imul dX12_between_7 ?_
  refine Z_aload_n 0 dX12_between_8 rfl rfl ?_
  refine Z_get (T := TX12) (N := 30) (ci := 12) (t := 2) 5 dX12_between_9 la_211 (z_leN la_211 (by decide)) rfl (by decide) inX12 (by decide) (flX12_23 rfl) rfl ?_
  refine Z_top (y := 216) ((Fix.get g1 la_211 5 5 (by decide +kernel)).trans (by clear h; omega)) ?_
  refine Z_iload_n 2 dX12_between_12 rfl rfl ?_
  obtain ⟨g2, h⟩ := h
  obtain ⟨g3, h⟩ := h
  refine Z_iald dX12_between_13 la_216 (z_leN la_216 (by decide)) g2 g3 ?_
  refine Z_aload_n 0 dX12_between_14 rfl rfl ?_
  refine Z_get (T := TX12) (N := 30) (ci := 12) (t := 2) 6 dX12_between_15 la_211 (z_leN la_211 (by decide)) rfl (by decide) inX12 (by decide) (flX12_26 rfl) rfl ?_
  refine Z_top (y := 217) ((Fix.get g1 la_211 6 6 (by decide +kernel)).trans (by clear h; omega)) ?_
  refine Z_iload_n 2 dX12_between_18 rfl rfl ?_
  refine Z_iald dX12_between_19 la_217 (z_leN la_217 (by decide)) g2 g3 ?_
  refine Z_aload_n 0 dX12_between_20 rfl rfl ?_
  refine Z_get (T := TX12) (N := 30) (ci := 12) (t := 2) 5 dX12_between_21 la_211 (z_leN la_211 (by decide)) rfl (by decide) inX12 (by decide) (flX12_23 rfl) rfl ?_
  refine Z_top (y := 216) ((Fix.get g1 la_211 5 5 (by decide +kernel)).trans (by clear h; omega)) ?_
  refine Z_iload_n 3 dX12_between_24 rfl rfl ?_
  obtain ⟨g4, h⟩ := h
  obtain ⟨g5, h⟩ := h
  refine Z_iald dX12_between_25 la_216 (z_leN la_216 (by decide)) g4 g5 ?_
  refine Z_aload_n 0 dX12_between_26 rfl rfl ?_
  refine Z_get (T := TX12) (N := 30) (ci := 12) (t := 2) 6 dX12_between_27 la_211 (z_leN la_211 (by decide)) rfl (by decide) inX12 (by decide) (flX12_26 rfl) rfl ?_
  refine Z_top (y := 217) ((Fix.get g1 la_211 6 6 (by decide +kernel)).trans (by clear h; omega)) ?_
  refine Z_iload_n 3 dX12_between_30 rfl rfl ?_
  refine Z_iald dX12_between_31 la_217 (z_leN la_217 (by decide)) g4 g5 ?_
  refine Z_invS (M' := mX12_way) (ρ' := rX12_way zN) (st := [(0, (81 * x1)), (2, 220)]) [(0, (σ 216 x2)), (0, (σ 217 x2)), (0, (σ 216 x3)), (0, (σ 217 x3))] dX12_between_32 rfl rfl (kX12_way.cl (Nat.le_of_ble_eq_true rfl) (Nat.le_refl _) (Nat.le_refl _) (Nat.le_of_ble_eq_true rfl) (Nat.le_of_ble_eq_true rfl) (Nat.le_of_ble_eq_true rfl)) (mlX12_207 rfl) sX12_way h (z_ki (fun r6 σ7 h => ?_))
  refine Z_iadd dX12_between_35 ?_
  obtain ⟨g8, h⟩ := h
  obtain ⟨g9, h⟩ := h
  refine Z_iald dX12_between_36 la_220 (z_leN la_220 (by decide)) g8 g9 ?_
  exact Z_ireturn dX12_between_37 rfl rfl ⟨rfl, h⟩
theorem bk_X12_ways {X : ZS} {σ : ZM} {T : Int → ZM → Prop} {x1 : Int} (h : Z X (rX12_ways zN) mX12_ways 4 [(2, 211), (0, x1), (0, 0), (0, 0)] [] zN σ (zQi T)) : ZC X (rX12_ways zN) mX12_ways [(2, 211), (0, x1)] zN σ (zQi T) := by
  show Z X _ _ 0 [(2, 211), (0, x1), (9, 0), (9, 0)] [] _ σ _
  refine Z_iconst dX12_ways_0 ?_
  refine Z_istore_n (L' := [(2, 211), (0, x1), (0, 0), (9, 0)]) 2 dX12_ways_1 rfl (Nat.le_of_ble_eq_true rfl) rfl ?_
  refine Z_iconst dX12_ways_2 ?_
  refine Z_istore_n (L' := [(2, 211), (0, x1), (0, 0), (0, 0)]) 3 dX12_ways_3 rfl (Nat.le_of_ble_eq_true rfl) rfl ?_
  exact Z_few (z_few_k (z_few_k (z_few_k (z_few_k z_few_0)))) h
theorem bk_X12_ways_4 {X : ZS} {σ : ZM} {T : Int → ZM → Prop} {x1 : Int} {x2 : Int} {x3 : Int} (h : (r32 x3) ∧ (r32 (σ 211 23)) ∧ (((σ 211 23) ≤ x3) → T x2 σ) ∧ ((¬ ((σ 211 23) ≤ x3)) → (Fix σ) ∧ (0 ≤ x1) ∧ (x1 < 8) ∧ (0 ≤ x3) ∧ (x3 < 6) ∧ ZC X (rX12_way zN) mX12_way [(0, (σ 216 x1)), (0, (σ 217 x1)), (0, (σ 226 x3)), (0, (σ 227 x3))] zN σ (zQi (fun r8 σ9 => Z X (rX12_ways zN) mX12_ways 4 [(2, 211), (0, x1), (0, (x2 + r8)), (0, (x3 + 1))] [] zN σ9 (zQi T))))) : Z X (rX12_ways zN) mX12_ways 4 [(2, 211), (0, x1), (0, x2), (0, x3)] [] zN σ (zQi T) := by
  refine Z_iload_n 3 dX12_ways_4 rfl rfl ?_
  refine Z_aload_n 0 dX12_ways_5 rfl rfl ?_
  refine Z_get (T := TX12) (N := 30) (ci := 12) (t := 0) 23 dX12_ways_6 la_211 (z_leN la_211 (by decide)) rfl (by decide) inX12 (by decide) (flX12_211 rfl) rfl ?_
  obtain ⟨g1, h⟩ := h
  obtain ⟨g2, h⟩ := h
  refine Z_icmp_ge (tgt := 48) dX12_ways_9 (by decide) g1 g2 (fun c => ?_) (fun c => ?_)
  · replace h := h.1 c
    refine Z_iload_n 2 dX12_ways_48 rfl rfl ?_
    exact Z_ireturn dX12_ways_49 rfl rfl ⟨rfl, h⟩
  · replace h := h.2 c
    refine Z_iload_n 2 dX12_ways_12 rfl rfl ?_
    refine Z_aload_n 0 dX12_ways_13 rfl rfl ?_
    obtain ⟨g3, h⟩ := h
    refine Z_get (T := TX12) (N := 30) (ci := 12) (t := 2) 5 dX12_ways_14 la_211 (z_leN la_211 (by decide)) rfl (by decide) inX12 (by decide) (flX12_23 rfl) rfl ?_
    refine Z_top (y := 216) ((Fix.get g3 la_211 5 5 (by decide +kernel)).trans (by clear h; omega)) ?_
    refine Z_iload_n 1 dX12_ways_17 rfl rfl ?_
    obtain ⟨g4, h⟩ := h
    obtain ⟨g5, h⟩ := h
    refine Z_iald dX12_ways_18 la_216 (z_leN la_216 (by decide)) g4 g5 ?_
    refine Z_aload_n 0 dX12_ways_19 rfl rfl ?_
    refine Z_get (T := TX12) (N := 30) (ci := 12) (t := 2) 6 dX12_ways_20 la_211 (z_leN la_211 (by decide)) rfl (by decide) inX12 (by decide) (flX12_26 rfl) rfl ?_
    refine Z_top (y := 217) ((Fix.get g3 la_211 6 6 (by decide +kernel)).trans (by clear h; omega)) ?_
    refine Z_iload_n 1 dX12_ways_23 rfl rfl ?_
    refine Z_iald dX12_ways_24 la_217 (z_leN la_217 (by decide)) g4 g5 ?_
    refine Z_aload_n 0 dX12_ways_25 rfl rfl ?_
    refine Z_get (T := TX12) (N := 30) (ci := 12) (t := 2) 24 dX12_ways_26 la_211 (z_leN la_211 (by decide)) rfl (by decide) inX12 (by decide) (flX12_60 rfl) rfl ?_
    refine Z_top (y := 226) ((Fix.get g3 la_211 24 15 (by decide +kernel)).trans (by clear h; omega)) ?_
    refine Z_iload_n 3 dX12_ways_29 rfl rfl ?_
    obtain ⟨g6, h⟩ := h
    obtain ⟨g7, h⟩ := h
    refine Z_iald dX12_ways_30 la_226 (z_leN la_226 (by decide)) g6 g7 ?_
    refine Z_aload_n 0 dX12_ways_31 rfl rfl ?_
    refine Z_get (T := TX12) (N := 30) (ci := 12) (t := 2) 25 dX12_ways_32 la_211 (z_leN la_211 (by decide)) rfl (by decide) inX12 (by decide) (flX12_63 rfl) rfl ?_
    refine Z_top (y := 227) ((Fix.get g3 la_211 25 16 (by decide +kernel)).trans (by clear h; omega)) ?_
    refine Z_iload_n 3 dX12_ways_35 rfl rfl ?_
    refine Z_iald dX12_ways_36 la_227 (z_leN la_227 (by decide)) g6 g7 ?_
    refine Z_invS (M' := mX12_way) (ρ' := rX12_way zN) (st := [(0, x2)]) [(0, (σ 216 x1)), (0, (σ 217 x1)), (0, (σ 226 x3)), (0, (σ 227 x3))] dX12_ways_37 rfl rfl (kX12_way.cl (Nat.le_of_ble_eq_true rfl) (Nat.le_refl _) (Nat.le_refl _) (Nat.le_of_ble_eq_true rfl) (Nat.le_of_ble_eq_true rfl) (Nat.le_of_ble_eq_true rfl)) (mlX12_207 rfl) sX12_way h (z_ki (fun r8 σ9 h => ?_))
    refine Z_iadd dX12_ways_40 ?_
    refine Z_istore_n (L' := [(2, 211), (0, x1), (0, (x2 + r8)), (0, x3)]) 2 dX12_ways_41 rfl (Nat.le_of_ble_eq_true rfl) rfl ?_
    refine Z_iinc (L' := [(2, 211), (0, x1), (0, (x2 + r8)), (0, (x3 + 1))]) dX12_ways_42 rfl (Nat.le_of_ble_eq_true rfl) rfl ?_
    refine Z_goto (tgt := 4) dX12_ways_45 (by decide) ?_
    exact Z_few (z_few_k (z_few_k (z_few_k (z_few_k z_few_0)))) h
theorem bk_X12_choose {X : ZS} {σ : ZM} {T : ZM → Prop}  (h : (Fix σ) ∧ Z X (rX12_choose zN) mX12_choose 12 [(2, 211), (2, 229), (0, 0), (9, 0)] [] zN (z_up σ 211 26 0) (zQv T)) : ZC X (rX12_choose zN) mX12_choose [(2, 211)] zN σ (zQv T) := by
  show Z X _ _ 0 [(2, 211), (9, 0), (9, 0), (9, 0)] [] _ σ _
  refine Z_aload_n 0 dX12_choose_0 rfl rfl ?_
  refine Z_iconst dX12_choose_1 ?_
  refine Z_put (T := TX12) (N := 30) (ci := 12) (t := 0) tyX12 26 dX12_choose_2 la_211 (z_leN la_211 (by decide)) rfl (by decide) inX12 (by decide) (plX12_214 rfl) rfl tyX12_ok nmX12 rfl (z_nf_i _) ?_
  refine Z_aload_n 0 dX12_choose_5 rfl rfl ?_
  obtain ⟨g1, h⟩ := h
  refine Z_get (T := TX12) (N := 30) (ci := 12) (t := 2) 28 dX12_choose_6 la_211 (z_leN la_211 (by decide)) rfl (by decide) inX12 (by decide) (flX12_69 rfl) rfl ?_
  refine Z_top (y := 229) ((Fix.get (Fix.upF g1 la_211 26 (by decide +kernel)) la_211 28 18 (by decide +kernel)).trans (by clear h; omega)) ?_
  refine Z_astore_n (L' := [(2, 211), (2, 229), (9, 0), (9, 0)]) 1 dX12_choose_9 rfl (Nat.le_of_ble_eq_true rfl) rfl ?_
  refine Z_iconst dX12_choose_10 ?_
  refine Z_istore_n (L' := [(2, 211), (2, 229), (0, 0), (9, 0)]) 2 dX12_choose_11 rfl (Nat.le_of_ble_eq_true rfl) rfl ?_
  exact Z_few (z_few_k (z_few_k (z_few_k (z_few_k z_few_0)))) h
theorem bk_X12_choose_12 {X : ZS} {σ : ZM} {T : ZM → Prop} {p1 : Int} (hp1 : z_l p1 = (22, 8)) {x2 : Int} (h : (r32 x2) ∧ (r32 (σ 211 4)) ∧ (((σ 211 4) ≤ x2) → Z X (rX12_choose zN) mX12_choose 30 [(2, 211), (2, p1), (9, 0), (9, 0)] [] zN σ (zQv T)) ∧ ((¬ ((σ 211 4) ≤ x2)) → (0 ≤ x2) ∧ (x2 < 8) ∧ Z X (rX12_choose zN) mX12_choose 12 [(2, 211), (2, p1), (0, (x2 + 1)), (9, 0)] [] zN (z_up σ p1 x2 0) (zQv T))) : Z X (rX12_choose zN) mX12_choose 12 [(2, 211), (2, p1), (0, x2), (9, 0)] [] zN σ (zQv T) := by
  refine Z_iload_n 2 dX12_choose_12 rfl rfl ?_
  refine Z_aload_n 0 dX12_choose_13 rfl rfl ?_
  refine Z_get (T := TX12) (N := 30) (ci := 12) (t := 0) 4 dX12_choose_14 la_211 (z_leN la_211 (by decide)) rfl (by decide) inX12 (by decide) (flX12_167 rfl) rfl ?_
  obtain ⟨g1, h⟩ := h
  obtain ⟨g2, h⟩ := h
  refine Z_icmp_ge (tgt := 30) dX12_choose_17 (by decide) g1 g2 (fun c => ?_) (fun c => ?_)
  · replace h := h.1 c
    exact Z_few (z_few_k (z_few_k (z_few_d (z_few_k z_few_0)))) h
  · replace h := h.2 c
    refine Z_aload_n 1 dX12_choose_20 rfl rfl ?_
    refine Z_iload_n 2 dX12_choose_21 rfl rfl ?_
    refine Z_iconst dX12_choose_22 ?_
    obtain ⟨g3, h⟩ := h
    obtain ⟨g4, h⟩ := h
    refine Z_zast dX12_choose_23 hp1 (z_leN hp1 (by decide)) g3 g4 (Or.inl rfl) ?_
    refine Z_iinc (L' := [(2, 211), (2, p1), (0, (x2 + 1)), (9, 0)]) dX12_choose_24 rfl (Nat.le_of_ble_eq_true rfl) rfl ?_
    refine Z_goto (tgt := 12) dX12_choose_27 (by decide) ?_
    exact Z_few (z_few_k (z_few_k (z_few_k (z_few_k z_few_0)))) h
theorem bk_X12_choose_30 {X : ZS} {σ : ZM} {T : ZM → Prop} {p1 : Int} (hp1 : z_l p1 = (22, 8)) (h : (r32 (σ 211 26)) ∧ (r32 (σ 211 12)) ∧ (((σ 211 12) ≤ (σ 211 26)) → T σ) ∧ ((¬ ((σ 211 12) ≤ (σ 211 26))) → (r32 (σ 211 4)) ∧ (((σ 211 4) ≤ (σ 211 26)) → T σ) ∧ ((¬ ((σ 211 4) ≤ (σ 211 26))) → Z X (rX12_choose zN) mX12_choose 56 [(2, 211), (2, p1), (0, (-1)), (0, 0)] [] zN σ (zQv T)))) : Z X (rX12_choose zN) mX12_choose 30 [(2, 211), (2, p1), (9, 0), (9, 0)] [] zN σ (zQv T) := by
  refine Z_aload_n 0 dX12_choose_30 rfl rfl ?_
  refine Z_get (T := TX12) (N := 30) (ci := 12) (t := 0) 26 dX12_choose_31 la_211 (z_leN la_211 (by decide)) rfl (by decide) inX12 (by decide) (flX12_214 rfl) rfl ?_
  refine Z_aload_n 0 dX12_choose_34 rfl rfl ?_
  refine Z_get (T := TX12) (N := 30) (ci := 12) (t := 0) 12 dX12_choose_35 la_211 (z_leN la_211 (by decide)) rfl (by decide) inX12 (by decide) (flX12_42 rfl) rfl ?_
  obtain ⟨g1, h⟩ := h
  obtain ⟨g2, h⟩ := h
  refine Z_icmp_ge (tgt := 123) dX12_choose_38 (by decide) g1 g2 (fun c => ?_) (fun c => ?_)
  · replace h := h.1 c
    exact Z_return dX12_choose_123 rfl rfl ⟨rfl, h⟩
  · replace h := h.2 c
    refine Z_aload_n 0 dX12_choose_41 rfl rfl ?_
    refine Z_get (T := TX12) (N := 30) (ci := 12) (t := 0) 26 dX12_choose_42 la_211 (z_leN la_211 (by decide)) rfl (by decide) inX12 (by decide) (flX12_214 rfl) rfl ?_
    refine Z_aload_n 0 dX12_choose_45 rfl rfl ?_
    refine Z_get (T := TX12) (N := 30) (ci := 12) (t := 0) 4 dX12_choose_46 la_211 (z_leN la_211 (by decide)) rfl (by decide) inX12 (by decide) (flX12_167 rfl) rfl ?_
    obtain ⟨g3, h⟩ := h
    refine Z_icmp_ge (tgt := 123) dX12_choose_49 (by decide) g1 g3 (fun c => ?_) (fun c => ?_)
    · replace h := h.1 c
      exact Z_return dX12_choose_123 rfl rfl ⟨rfl, h⟩
    · replace h := h.2 c
      refine Z_iconst dX12_choose_52 ?_
      refine Z_istore_n (L' := [(2, 211), (2, p1), (0, (-1)), (9, 0)]) 2 dX12_choose_53 rfl (Nat.le_of_ble_eq_true rfl) rfl ?_
      refine Z_iconst dX12_choose_54 ?_
      refine Z_istore_n (L' := [(2, 211), (2, p1), (0, (-1)), (0, 0)]) 3 dX12_choose_55 rfl (Nat.le_of_ble_eq_true rfl) rfl ?_
      exact Z_few (z_few_k (z_few_k (z_few_k (z_few_k z_few_0)))) h
theorem bk_X12_choose_56 {X : ZS} {σ : ZM} {T : ZM → Prop} {p1 : Int} (hp1 : z_l p1 = (22, 8)) {x2 : Int} {x3 : Int} (h : (r32 x3) ∧ (r32 (σ 211 4)) ∧ (((σ 211 4) ≤ x3) → (0 ≤ x2) ∧ (x2 < 8) ∧ (Fix σ) ∧ (0 ≤ (σ 211 26)) ∧ ((σ 211 26) < 8) ∧ Z X (rX12_choose zN) mX12_choose 30 [(2, 211), (2, p1), (9, 0), (9, 0)] [] zN (z_up (z_up (z_up σ p1 x2 1) 228 (σ 211 26) x2) 211 26 ((σ 211 26) + 1)) (zQv T)) ∧ ((¬ ((σ 211 4) ≤ x3)) → (0 ≤ x3) ∧ (x3 < 8) ∧ (r32 (σ p1 x3)) ∧ ((¬ (σ p1 x3) = 0) → Z X (rX12_choose zN) mX12_choose 56 [(2, 211), (2, p1), (0, x2), (0, (x3 + 1))] [] zN σ (zQv T)) ∧ (((σ p1 x3) = 0) → (r32 x2) ∧ ((x2 = (-1)) → Z X (rX12_choose zN) mX12_choose 56 [(2, 211), (2, p1), (0, x3), (0, (x3 + 1))] [] zN σ (zQv T)) ∧ ((¬ x2 = (-1)) → ZC X (rX12_ways zN) mX12_ways [(2, 211), (0, x3)] zN σ (zQi (fun r12 σ13 => ZC X (rX12_ways zN) mX12_ways [(2, 211), (0, x2)] zN σ13 (zQi (fun r14 σ15 => (r32 r12) ∧ (r32 r14) ∧ ((r14 ≤ r12) → Z X (rX12_choose zN) mX12_choose 56 [(2, 211), (2, p1), (0, x2), (0, (x3 + 1))] [] zN σ15 (zQv T)) ∧ ((¬ (r14 ≤ r12)) → Z X (rX12_choose zN) mX12_choose 56 [(2, 211), (2, p1), (0, x3), (0, (x3 + 1))] [] zN σ15 (zQv T)))))))))) : Z X (rX12_choose zN) mX12_choose 56 [(2, 211), (2, p1), (0, x2), (0, x3)] [] zN σ (zQv T) := by
  refine Z_iload_n 3 dX12_choose_56 rfl rfl ?_
  refine Z_aload_n 0 dX12_choose_57 rfl rfl ?_
  refine Z_get (T := TX12) (N := 30) (ci := 12) (t := 0) 4 dX12_choose_58 la_211 (z_leN la_211 (by decide)) rfl (by decide) inX12 (by decide) (flX12_167 rfl) rfl ?_
  obtain ⟨g1, h⟩ := h
  obtain ⟨g2, h⟩ := h
  refine Z_icmp_ge (tgt := 96) dX12_choose_61 (by decide) g1 g2 (fun c => ?_) (fun c => ?_)
  · replace h := h.1 c
    refine Z_aload_n 1 dX12_choose_96 rfl rfl ?_
    refine Z_iload_n 2 dX12_choose_97 rfl rfl ?_
    refine Z_iconst dX12_choose_98 ?_
    obtain ⟨g3, h⟩ := h
    obtain ⟨g4, h⟩ := h
    refine Z_zast dX12_choose_99 hp1 (z_leN hp1 (by decide)) g3 g4 (Or.inr rfl) ?_
    refine Z_aload_n 0 dX12_choose_100 rfl rfl ?_
    obtain ⟨g5, h⟩ := h
    refine Z_get (T := TX12) (N := 30) (ci := 12) (t := 2) 27 dX12_choose_101 la_211 (z_leN la_211 (by decide)) rfl (by decide) inX12 (by decide) (flX12_66 rfl) rfl ?_
    refine Z_top (y := 228) ((Fix.get (Fix.upA g5 hp1 (by decide)) la_211 27 17 (by decide +kernel)).trans (by clear h; omega)) ?_
    refine Z_aload_n 0 dX12_choose_104 rfl rfl ?_
    refine Z_get (T := TX12) (N := 30) (ci := 12) (t := 0) 26 dX12_choose_105 la_211 (z_leN la_211 (by decide)) rfl (by decide) inX12 (by decide) (flX12_214 rfl) rfl ?_
    refine Z_top (z_up_ne _ (Or.inl (z_nek la_211 hp1 (by decide)))) ?_
    refine Z_iload_n 2 dX12_choose_108 rfl rfl ?_
    obtain ⟨g6, h⟩ := h
    obtain ⟨g7, h⟩ := h
    refine Z_iast dX12_choose_109 la_228 (z_leN la_228 (by decide)) g6 g7 ?_
    refine Z_aload_n 0 dX12_choose_110 rfl rfl ?_
    refine Z_dup dX12_choose_111 (by simp) ?_
    refine Z_get (T := TX12) (N := 30) (ci := 12) (t := 0) 26 dX12_choose_112 la_211 (z_leN la_211 (by decide)) rfl (by decide) inX12 (by decide) (flX12_214 rfl) rfl ?_
    refine Z_top ((z_up_ne _ (Or.inl (by decide))).trans (z_up_ne _ (Or.inl (z_nek la_211 hp1 (by decide))))) ?_
    refine Z_iconst dX12_choose_115 ?_
    refine Z_iadd dX12_choose_116 ?_
    refine Z_put (T := TX12) (N := 30) (ci := 12) (t := 0) tyX12 26 dX12_choose_117 la_211 (z_leN la_211 (by decide)) rfl (by decide) inX12 (by decide) (plX12_214 rfl) rfl tyX12_ok nmX12 rfl (z_nf_i _) ?_
    refine Z_goto (tgt := 30) dX12_choose_120 (by decide) ?_
    exact Z_few (z_few_k (z_few_k (z_few_d (z_few_d z_few_0)))) h
  · replace h := h.2 c
    refine Z_aload_n 1 dX12_choose_64 rfl rfl ?_
    refine Z_iload_n 3 dX12_choose_65 rfl rfl ?_
    obtain ⟨g8, h⟩ := h
    obtain ⟨g9, h⟩ := h
    refine Z_zald dX12_choose_66 hp1 (z_leN hp1 (by decide)) g8 g9 ?_
    obtain ⟨g10, h⟩ := h
    refine Z_if_ne (tgt := 90) dX12_choose_67 (by decide) g10 (fun c => ?_) (fun c => ?_)
    · replace h := h.1 c
      refine Z_iinc (L' := [(2, 211), (2, p1), (0, x2), (0, (x3 + 1))]) dX12_choose_90 rfl (Nat.le_of_ble_eq_true rfl) rfl ?_
      refine Z_goto (tgt := 56) dX12_choose_93 (by decide) ?_
      exact Z_few (z_few_k (z_few_k (z_few_k (z_few_k z_few_0)))) h
    · replace h := h.2 c
      refine Z_iload_n 2 dX12_choose_70 rfl rfl ?_
      refine Z_iconst dX12_choose_71 ?_
      obtain ⟨g11, h⟩ := h
      refine Z_icmp_eq (tgt := 88) dX12_choose_72 (by decide) g11 ⟨by decide, by decide⟩ (fun c => ?_) (fun c => ?_)
      · replace h := h.1 c
        refine Z_iload_n 3 dX12_choose_88 rfl rfl ?_
        refine Z_istore_n (L' := [(2, 211), (2, p1), (0, x3), (0, x3)]) 2 dX12_choose_89 rfl (Nat.le_of_ble_eq_true rfl) rfl ?_
        refine Z_iinc (L' := [(2, 211), (2, p1), (0, x3), (0, (x3 + 1))]) dX12_choose_90 rfl (Nat.le_of_ble_eq_true rfl) rfl ?_
        refine Z_goto (tgt := 56) dX12_choose_93 (by decide) ?_
        exact Z_few (z_few_k (z_few_k (z_few_k (z_few_k z_few_0)))) h
      · replace h := h.2 c
        refine Z_aload_n 0 dX12_choose_75 rfl rfl ?_
        refine Z_iload_n 3 dX12_choose_76 rfl rfl ?_
        refine Z_invV (T := TX12) (N := 30) (ci := 12) (M' := mX12_ways) (ρ' := rX12_ways zN) (st := []) [(0, x3)] dX12_choose_77 rfl rfl la_211 (z_leN la_211 (by decide)) (by decide) rfl rfl (kX12_ways.cl (Nat.le_of_ble_eq_true rfl) (Nat.le_refl _) (Nat.le_refl _) (Nat.le_of_ble_eq_true rfl) (Nat.le_of_ble_eq_true rfl) (Nat.le_of_ble_eq_true rfl)) (mlX12_217 rfl) iX12_ways sX12_ways h (z_ki (fun r12 σ13 h => ?_))
        refine Z_aload_n 0 dX12_choose_80 rfl rfl ?_
        refine Z_iload_n 2 dX12_choose_81 rfl rfl ?_
        refine Z_invV (T := TX12) (N := 30) (ci := 12) (M' := mX12_ways) (ρ' := rX12_ways zN) (st := [(0, r12)]) [(0, x2)] dX12_choose_82 rfl rfl la_211 (z_leN la_211 (by decide)) (by decide) rfl rfl (kX12_ways.cl (Nat.le_of_ble_eq_true rfl) (Nat.le_refl _) (Nat.le_refl _) (Nat.le_of_ble_eq_true rfl) (Nat.le_of_ble_eq_true rfl) (Nat.le_of_ble_eq_true rfl)) (mlX12_217 rfl) iX12_ways sX12_ways h (z_ki (fun r14 σ15 h => ?_))
        obtain ⟨g16, h⟩ := h
        obtain ⟨g17, h⟩ := h
        refine Z_icmp_ge (tgt := 90) dX12_choose_85 (by decide) g16 g17 (fun c => ?_) (fun c => ?_)
        · replace h := h.1 c
          refine Z_iinc (L' := [(2, 211), (2, p1), (0, x2), (0, (x3 + 1))]) dX12_choose_90 rfl (Nat.le_of_ble_eq_true rfl) rfl ?_
          refine Z_goto (tgt := 56) dX12_choose_93 (by decide) ?_
          exact Z_few (z_few_k (z_few_k (z_few_k (z_few_k z_few_0)))) h
        · replace h := h.2 c
          refine Z_iload_n 3 dX12_choose_88 rfl rfl ?_
          refine Z_istore_n (L' := [(2, 211), (2, p1), (0, x3), (0, x3)]) 2 dX12_choose_89 rfl (Nat.le_of_ble_eq_true rfl) rfl ?_
          refine Z_iinc (L' := [(2, 211), (2, p1), (0, x3), (0, (x3 + 1))]) dX12_choose_90 rfl (Nat.le_of_ble_eq_true rfl) rfl ?_
          refine Z_goto (tgt := 56) dX12_choose_93 (by decide) ?_
          exact Z_few (z_few_k (z_few_k (z_few_k (z_few_k z_few_0)))) h
theorem bk_X12_toPlaces {X : ZS} {σ : ZM} {T : Int → ZM → Prop} {x1 : Int} {x2 : Int} (h : Z X (rX12_toPlaces zN) mX12_toPlaces 5 [(2, 211), (0, x1), (0, x2), (0, 0), (0, 0)] [] zN σ (zQi T)) : ZC X (rX12_toPlaces zN) mX12_toPlaces [(2, 211), (0, x1), (0, x2)] zN σ (zQi T) := by
  show Z X _ _ 0 [(2, 211), (0, x1), (0, x2), (9, 0), (9, 0)] [] _ σ _
  refine Z_iconst dX12_toPlaces_0 ?_
  refine Z_istore_n (L' := [(2, 211), (0, x1), (0, x2), (0, 0), (9, 0)]) 3 dX12_toPlaces_1 rfl (Nat.le_of_ble_eq_true rfl) rfl ?_
  refine Z_iconst dX12_toPlaces_2 ?_
  refine Z_istore (L' := [(2, 211), (0, x1), (0, x2), (0, 0), (0, 0)]) dX12_toPlaces_3 (Nat.le_of_ble_eq_true rfl) rfl ?_
  exact Z_few (z_few_k (z_few_k (z_few_k (z_few_k (z_few_k z_few_0))))) h
theorem bk_X12_toPlaces_5 {X : ZS} {σ : ZM} {T : Int → ZM → Prop} {x1 : Int} {x2 : Int} {x3 : Int} {x4 : Int} (h : (r32 x4) ∧ (r32 (σ 211 23)) ∧ (((σ 211 23) ≤ x4) → T x3 σ) ∧ ((¬ ((σ 211 23) ≤ x4)) → (Fix σ) ∧ (0 ≤ x2) ∧ (x2 < 8) ∧ (0 ≤ x4) ∧ (x4 < 6) ∧ ZC X (rX12_way zN) mX12_way [(0, (σ 216 x2)), (0, (σ 217 x2)), (0, (σ 226 x4)), (0, (σ 227 x4))] zN σ (zQi (fun r8 σ9 => (0 ≤ ((81 * x1) + r8)) ∧ (((81 * x1) + r8) < 486) ∧ Z X (rX12_toPlaces zN) mX12_toPlaces 5 [(2, 211), (0, x1), (0, x2), (0, (x3 + (σ9 220 ((81 * x1) + r8)))), (0, (x4 + 1))] [] zN σ9 (zQi T))))) : Z X (rX12_toPlaces zN) mX12_toPlaces 5 [(2, 211), (0, x1), (0, x2), (0, x3), (0, x4)] [] zN σ (zQi T) := by
  refine Z_iload dX12_toPlaces_5 rfl ?_
  refine Z_aload_n 0 dX12_toPlaces_7 rfl rfl ?_
  refine Z_get (T := TX12) (N := 30) (ci := 12) (t := 0) 23 dX12_toPlaces_8 la_211 (z_leN la_211 (by decide)) rfl (by decide) inX12 (by decide) (flX12_211 rfl) rfl ?_
  obtain ⟨g1, h⟩ := h
  obtain ⟨g2, h⟩ := h
  refine Z_icmp_ge (tgt := 62) dX12_toPlaces_11 (by decide) g1 g2 (fun c => ?_) (fun c => ?_)
  · replace h := h.1 c
    refine Z_iload_n 3 dX12_toPlaces_62 rfl rfl ?_
    exact Z_ireturn dX12_toPlaces_63 rfl rfl ⟨rfl, h⟩
  · replace h := h.2 c
    refine Z_iload_n 3 dX12_toPlaces_14 rfl rfl ?_
    refine Z_aload_n 0 dX12_toPlaces_15 rfl rfl ?_
    obtain ⟨g3, h⟩ := h
    refine Z_get (T := TX12) (N := 30) (ci := 12) (t := 2) 10 dX12_toPlaces_16 la_211 (z_leN la_211 (by decide)) rfl (by decide) inX12 (by decide) (flX12_35 rfl) rfl ?_
    refine Z_top (y := 220) ((Fix.get g3 la_211 10 9 (by decide +kernel)).trans (by clear h; omega)) ?_
    refine Z_bipush dX12_toPlaces_19 (by decide) ?_
    refine Z_iload_n 1 dX12_toPlaces_21 rfl rfl ?_
    refine Z_imul dX12_toPlaces_22 ?_
    refine Z_aload_n 0 dX12_toPlaces_23 rfl rfl ?_
    refine Z_get (T := TX12) (N := 30) (ci := 12) (t := 2) 5 dX12_toPlaces_24 la_211 (z_leN la_211 (by decide)) rfl (by decide) inX12 (by decide) (flX12_23 rfl) rfl ?_
    refine Z_top (y := 216) ((Fix.get g3 la_211 5 5 (by decide +kernel)).trans (by clear h; omega)) ?_
    refine Z_iload_n 2 dX12_toPlaces_27 rfl rfl ?_
    obtain ⟨g4, h⟩ := h
    obtain ⟨g5, h⟩ := h
    refine Z_iald dX12_toPlaces_28 la_216 (z_leN la_216 (by decide)) g4 g5 ?_
    refine Z_aload_n 0 dX12_toPlaces_29 rfl rfl ?_
    refine Z_get (T := TX12) (N := 30) (ci := 12) (t := 2) 6 dX12_toPlaces_30 la_211 (z_leN la_211 (by decide)) rfl (by decide) inX12 (by decide) (flX12_26 rfl) rfl ?_
    refine Z_top (y := 217) ((Fix.get g3 la_211 6 6 (by decide +kernel)).trans (by clear h; omega)) ?_
    refine Z_iload_n 2 dX12_toPlaces_33 rfl rfl ?_
    refine Z_iald dX12_toPlaces_34 la_217 (z_leN la_217 (by decide)) g4 g5 ?_
    refine Z_aload_n 0 dX12_toPlaces_35 rfl rfl ?_
    refine Z_get (T := TX12) (N := 30) (ci := 12) (t := 2) 24 dX12_toPlaces_36 la_211 (z_leN la_211 (by decide)) rfl (by decide) inX12 (by decide) (flX12_60 rfl) rfl ?_
    refine Z_top (y := 226) ((Fix.get g3 la_211 24 15 (by decide +kernel)).trans (by clear h; omega)) ?_
    refine Z_iload dX12_toPlaces_39 rfl ?_
    obtain ⟨g6, h⟩ := h
    obtain ⟨g7, h⟩ := h
    refine Z_iald dX12_toPlaces_41 la_226 (z_leN la_226 (by decide)) g6 g7 ?_
    refine Z_aload_n 0 dX12_toPlaces_42 rfl rfl ?_
    refine Z_get (T := TX12) (N := 30) (ci := 12) (t := 2) 25 dX12_toPlaces_43 la_211 (z_leN la_211 (by decide)) rfl (by decide) inX12 (by decide) (flX12_63 rfl) rfl ?_
    refine Z_top (y := 227) ((Fix.get g3 la_211 25 16 (by decide +kernel)).trans (by clear h; omega)) ?_
    refine Z_iload dX12_toPlaces_46 rfl ?_
    refine Z_iald dX12_toPlaces_48 la_227 (z_leN la_227 (by decide)) g6 g7 ?_
    refine Z_invS (M' := mX12_way) (ρ' := rX12_way zN) (st := [(0, (81 * x1)), (2, 220), (0, x3)]) [(0, (σ 216 x2)), (0, (σ 217 x2)), (0, (σ 226 x4)), (0, (σ 227 x4))] dX12_toPlaces_49 rfl rfl (kX12_way.cl (Nat.le_of_ble_eq_true rfl) (Nat.le_refl _) (Nat.le_refl _) (Nat.le_of_ble_eq_true rfl) (Nat.le_of_ble_eq_true rfl) (Nat.le_of_ble_eq_true rfl)) (mlX12_207 rfl) sX12_way h (z_ki (fun r8 σ9 h => ?_))
    refine Z_iadd dX12_toPlaces_52 ?_
    obtain ⟨g10, h⟩ := h
    obtain ⟨g11, h⟩ := h
    refine Z_iald dX12_toPlaces_53 la_220 (z_leN la_220 (by decide)) g10 g11 ?_
    refine Z_iadd dX12_toPlaces_54 ?_
    refine Z_istore_n (L' := [(2, 211), (0, x1), (0, x2), (0, (x3 + (σ9 220 ((81 * x1) + r8)))), (0, x4)]) 3 dX12_toPlaces_55 rfl (Nat.le_of_ble_eq_true rfl) rfl ?_
    refine Z_iinc (L' := [(2, 211), (0, x1), (0, x2), (0, (x3 + (σ9 220 ((81 * x1) + r8)))), (0, (x4 + 1))]) dX12_toPlaces_56 rfl (Nat.le_of_ble_eq_true rfl) rfl ?_
    refine Z_goto (tgt := 5) dX12_toPlaces_59 (by decide) ?_
    exact Z_few (z_few_k (z_few_k (z_few_k (z_few_k (z_few_k z_few_0))))) h
theorem bk_X12_weigh {X : ZS} {σ : ZM} {T : Bool → ZM → Prop} {x1 : Int} (h : Z X (rX12_weigh zN) mX12_weigh 22 [(2, 211), (0, x1), (0, 0), (9, 0)] [] zN (z_up (z_up σ 211 17 ((σ 211 26) + 1)) 211 18 ((σ 211 26) + 2)) (zQz T)) : ZC X (rX12_weigh zN) mX12_weigh [(2, 211), (0, x1)] zN σ (zQz T) := by
  show Z X _ _ 0 [(2, 211), (0, x1), (9, 0), (9, 0)] [] _ σ _
  refine Z_aload_n 0 dX12_weigh_0 rfl rfl ?_
  refine Z_aload_n 0 dX12_weigh_1 rfl rfl ?_
  refine Z_get (T := TX12) (N := 30) (ci := 12) (t := 0) 26 dX12_weigh_2 la_211 (z_leN la_211 (by decide)) rfl (by decide) inX12 (by decide) (flX12_214 rfl) rfl ?_
  refine Z_iconst dX12_weigh_5 ?_
  refine Z_iadd dX12_weigh_6 ?_
  refine Z_put (T := TX12) (N := 30) (ci := 12) (t := 0) tyX12 17 dX12_weigh_7 la_211 (z_leN la_211 (by decide)) rfl (by decide) inX12 (by decide) (plX12_150 rfl) rfl tyX12_ok nmX12 rfl (z_nf_i _) ?_
  refine Z_aload_n 0 dX12_weigh_10 rfl rfl ?_
  refine Z_aload_n 0 dX12_weigh_11 rfl rfl ?_
  refine Z_get (T := TX12) (N := 30) (ci := 12) (t := 0) 26 dX12_weigh_12 la_211 (z_leN la_211 (by decide)) rfl (by decide) inX12 (by decide) (flX12_214 rfl) rfl ?_
  refine Z_top (z_up_ne _ (Or.inr (by decide))) ?_
  refine Z_iconst dX12_weigh_15 ?_
  refine Z_iadd dX12_weigh_16 ?_
  refine Z_put (T := TX12) (N := 30) (ci := 12) (t := 0) tyX12 18 dX12_weigh_17 la_211 (z_leN la_211 (by decide)) rfl (by decide) inX12 (by decide) (plX12_157 rfl) rfl tyX12_ok nmX12 rfl (z_nf_i _) ?_
  refine Z_iconst dX12_weigh_20 ?_
  refine Z_istore_n (L' := [(2, 211), (0, x1), (0, 0), (9, 0)]) 2 dX12_weigh_21 rfl (Nat.le_of_ble_eq_true rfl) rfl ?_
  exact Z_few (z_few_k (z_few_k (z_few_k (z_few_k z_few_0)))) h
theorem bk_X12_weigh_22 {X : ZS} {σ : ZM} {T : Bool → ZM → Prop} {x1 : Int} {x2 : Int} (h : (r32 x2) ∧ (r32 (σ 211 26)) ∧ (((σ 211 26) ≤ x2) → ZC X (rX12_cell zN) mX12_cell [(2, 211), (0, (σ 211 26)), (0, (σ 211 26))] zN σ (zQi (fun r3 σ4 => ZC X (rX12_set zN) mX12_set [(2, 211), (0, r3), (1, 0)] zN σ4 (zQv (fun σ6 => ZC X (rX12_cell zN) mX12_cell [(2, 211), (0, (σ6 211 26)), (0, ((σ6 211 26) + 1))] zN σ6 (zQi (fun r7 σ8 => (r32 (σ8 211 23)) ∧ ZC X (rX12_set zN) mX12_set [(2, 211), (0, r7), (1, (σ8 211 23))] zN σ8 (zQv (fun σ11 => ZC X (rX12_clear zN) mX12_clear [(2, 211), (0, ((σ11 211 26) + 1))] zN σ11 (zQv (fun σ13 => (r32 (σ13 211 19)) ∧ (r32 ((σ13 211 26) + 1)) ∧ ((¬ (σ13 211 19) = ((σ13 211 26) + 1)) → T false σ13) ∧ (((σ13 211 19) = ((σ13 211 26) + 1)) → T true σ13)))))))))))) ∧ ((¬ ((σ 211 26) ≤ x2)) → Z X (rX12_weigh zN) mX12_weigh 32 [(2, 211), (0, x1), (0, x2), (0, 0)] [] zN σ (zQz T))) : Z X (rX12_weigh zN) mX12_weigh 22 [(2, 211), (0, x1), (0, x2), (9, 0)] [] zN σ (zQz T) := by
  refine Z_iload_n 2 dX12_weigh_22 rfl rfl ?_
  refine Z_aload_n 0 dX12_weigh_23 rfl rfl ?_
  refine Z_get (T := TX12) (N := 30) (ci := 12) (t := 0) 26 dX12_weigh_24 la_211 (z_leN la_211 (by decide)) rfl (by decide) inX12 (by decide) (flX12_214 rfl) rfl ?_
  obtain ⟨g1, h⟩ := h
  obtain ⟨g2, h⟩ := h
  refine Z_icmp_ge (tgt := 156) dX12_weigh_27 (by decide) g1 g2 (fun c => ?_) (fun c => ?_)
  · replace h := h.1 c
    refine Z_aload_n 0 dX12_weigh_156 rfl rfl ?_
    refine Z_aload_n 0 dX12_weigh_157 rfl rfl ?_
    refine Z_aload_n 0 dX12_weigh_158 rfl rfl ?_
    refine Z_get (T := TX12) (N := 30) (ci := 12) (t := 0) 26 dX12_weigh_159 la_211 (z_leN la_211 (by decide)) rfl (by decide) inX12 (by decide) (flX12_214 rfl) rfl ?_
    refine Z_aload_n 0 dX12_weigh_162 rfl rfl ?_
    refine Z_get (T := TX12) (N := 30) (ci := 12) (t := 0) 26 dX12_weigh_163 la_211 (z_leN la_211 (by decide)) rfl (by decide) inX12 (by decide) (flX12_214 rfl) rfl ?_
    refine Z_invV (T := TX12) (N := 30) (ci := 12) (M' := mX12_cell) (ρ' := rX12_cell zN) (st := [(2, 211)]) [(0, (σ 211 26)), (0, (σ 211 26))] dX12_weigh_166 rfl rfl la_211 (z_leN la_211 (by decide)) (by decide) rfl rfl (kX12_cell.cl (Nat.le_of_ble_eq_true rfl) (Nat.le_refl _) (Nat.le_refl _) (Nat.le_of_ble_eq_true rfl) (Nat.le_of_ble_eq_true rfl) (Nat.le_of_ble_eq_true rfl)) (mlX12_153 rfl) iX12_cell sX12_cell h (z_ki (fun r3 σ4 h => ?_))
    refine Z_lconst (x := 0) dX12_weigh_169 rfl ?_
    refine Z_invV (T := TX12) (N := 30) (ci := 12) (M' := mX12_set) (ρ' := rX12_set zN) (st := []) [(0, r3), (1, 0)] dX12_weigh_170 rfl rfl la_211 (z_leN la_211 (by decide)) (by decide) rfl rfl (kX12_set.cl (Nat.le_of_ble_eq_true rfl) (Nat.le_refl _) (Nat.le_refl _) (Nat.le_of_ble_eq_true rfl) (Nat.le_of_ble_eq_true rfl) (Nat.le_of_ble_eq_true rfl)) (mlX12_73 rfl) iX12_set sX12_set h (z_kv (fun σ6 h => ?_))
    refine Z_aload_n 0 dX12_weigh_173 rfl rfl ?_
    refine Z_aload_n 0 dX12_weigh_174 rfl rfl ?_
    refine Z_aload_n 0 dX12_weigh_175 rfl rfl ?_
    refine Z_get (T := TX12) (N := 30) (ci := 12) (t := 0) 26 dX12_weigh_176 la_211 (z_leN la_211 (by decide)) rfl (by decide) inX12 (by decide) (flX12_214 rfl) rfl ?_
    refine Z_aload_n 0 dX12_weigh_179 rfl rfl ?_
    refine Z_get (T := TX12) (N := 30) (ci := 12) (t := 0) 26 dX12_weigh_180 la_211 (z_leN la_211 (by decide)) rfl (by decide) inX12 (by decide) (flX12_214 rfl) rfl ?_
    refine Z_iconst dX12_weigh_183 ?_
    refine Z_iadd dX12_weigh_184 ?_
    refine Z_invV (T := TX12) (N := 30) (ci := 12) (M' := mX12_cell) (ρ' := rX12_cell zN) (st := [(2, 211)]) [(0, (σ6 211 26)), (0, ((σ6 211 26) + 1))] dX12_weigh_185 rfl rfl la_211 (z_leN la_211 (by decide)) (by decide) rfl rfl (kX12_cell.cl (Nat.le_of_ble_eq_true rfl) (Nat.le_refl _) (Nat.le_refl _) (Nat.le_of_ble_eq_true rfl) (Nat.le_of_ble_eq_true rfl) (Nat.le_of_ble_eq_true rfl)) (mlX12_153 rfl) iX12_cell sX12_cell h (z_ki (fun r7 σ8 h => ?_))
    refine Z_aload_n 0 dX12_weigh_188 rfl rfl ?_
    refine Z_get (T := TX12) (N := 30) (ci := 12) (t := 0) 23 dX12_weigh_189 la_211 (z_leN la_211 (by decide)) rfl (by decide) inX12 (by decide) (flX12_211 rfl) rfl ?_
    obtain ⟨g9, h⟩ := h
    refine Z_i2l dX12_weigh_192 g9 ?_
    refine Z_invV (T := TX12) (N := 30) (ci := 12) (M' := mX12_set) (ρ' := rX12_set zN) (st := []) [(0, r7), (1, (σ8 211 23))] dX12_weigh_193 rfl rfl la_211 (z_leN la_211 (by decide)) (by decide) rfl rfl (kX12_set.cl (Nat.le_of_ble_eq_true rfl) (Nat.le_refl _) (Nat.le_refl _) (Nat.le_of_ble_eq_true rfl) (Nat.le_of_ble_eq_true rfl) (Nat.le_of_ble_eq_true rfl)) (mlX12_73 rfl) iX12_set sX12_set h (z_kv (fun σ11 h => ?_))
    refine Z_aload_n 0 dX12_weigh_196 rfl rfl ?_
    refine Z_aload_n 0 dX12_weigh_197 rfl rfl ?_
    refine Z_get (T := TX12) (N := 30) (ci := 12) (t := 0) 26 dX12_weigh_198 la_211 (z_leN la_211 (by decide)) rfl (by decide) inX12 (by decide) (flX12_214 rfl) rfl ?_
    refine Z_iconst dX12_weigh_201 ?_
    refine Z_iadd dX12_weigh_202 ?_
    refine Z_invV (T := TX12) (N := 30) (ci := 12) (M' := mX12_clear) (ρ' := rX12_clear zN) (st := []) [(0, ((σ11 211 26) + 1))] dX12_weigh_203 rfl rfl la_211 (z_leN la_211 (by decide)) (by decide) rfl rfl (kX12_clear.cl (Nat.le_of_ble_eq_true rfl) (Nat.le_refl _) (Nat.le_refl _) (Nat.le_of_ble_eq_true rfl) (Nat.le_of_ble_eq_true rfl) (Nat.le_of_ble_eq_true rfl)) (mlX12_227 rfl) iX12_clear sX12_clear h (z_kv (fun σ13 h => ?_))
    refine Z_aload_n 0 dX12_weigh_206 rfl rfl ?_
    refine Z_get (T := TX12) (N := 30) (ci := 12) (t := 0) 19 dX12_weigh_207 la_211 (z_leN la_211 (by decide)) rfl (by decide) inX12 (by decide) (flX12_144 rfl) rfl ?_
    refine Z_aload_n 0 dX12_weigh_210 rfl rfl ?_
    refine Z_get (T := TX12) (N := 30) (ci := 12) (t := 0) 26 dX12_weigh_211 la_211 (z_leN la_211 (by decide)) rfl (by decide) inX12 (by decide) (flX12_214 rfl) rfl ?_
    refine Z_iconst dX12_weigh_214 ?_
    refine Z_iadd dX12_weigh_215 ?_
    obtain ⟨g14, h⟩ := h
    obtain ⟨g15, h⟩ := h
    refine Z_icmp_ne (tgt := 223) dX12_weigh_216 (by decide) g14 g15 (fun c => ?_) (fun c => ?_)
    · replace h := h.1 c
      refine Z_iconst dX12_weigh_223 ?_
      exact Z_zreturn dX12_weigh_224 rfl (Or.inl rfl) rfl ⟨rfl, false, rfl, h⟩
    · replace h := h.2 c
      refine Z_iconst dX12_weigh_219 ?_
      refine Z_goto (tgt := 224) dX12_weigh_220 (by decide) ?_
      exact Z_zreturn dX12_weigh_224 rfl (Or.inr rfl) rfl ⟨rfl, true, rfl, h⟩
  · replace h := h.2 c
    refine Z_iconst dX12_weigh_30 ?_
    refine Z_istore_n (L' := [(2, 211), (0, x1), (0, x2), (0, 0)]) 3 dX12_weigh_31 rfl (Nat.le_of_ble_eq_true rfl) rfl ?_
    exact Z_few (z_few_k (z_few_k (z_few_k (z_few_k z_few_0)))) h
theorem bk_X12_weigh_32 {X : ZS} {σ : ZM} {T : Bool → ZM → Prop} {x1 : Int} {x2 : Int} {x3 : Int} (h : (r32 x3) ∧ (r32 (σ 211 26)) ∧ (((σ 211 26) ≤ x3) → ZC X (rX12_cell zN) mX12_cell [(2, 211), (0, x2), (0, (σ 211 26))] zN σ (zQi (fun r3 σ4 => ZC X (rX12_set zN) mX12_set [(2, 211), (0, r3), (1, 1)] zN σ4 (zQv (fun σ6 => ZC X (rX12_cell zN) mX12_cell [(2, 211), (0, x2), (0, ((σ6 211 26) + 1))] zN σ6 (zQi (fun r7 σ8 => (Fix σ8) ∧ (0 ≤ x2) ∧ (x2 < 8) ∧ ZC X (rX12_toPlaces zN) mX12_toPlaces [(2, 211), (0, x1), (0, (σ8 228 x2))] zN σ8 (zQi (fun r12 σ13 => (r32 r12) ∧ ZC X (rX12_set zN) mX12_set [(2, 211), (0, r7), (1, r12)] zN σ13 (zQv (fun σ16 => ZC X (rX12_cell zN) mX12_cell [(2, 211), (0, (σ16 211 26)), (0, x2)] zN σ16 (zQi (fun r17 σ18 => ZC X (rX12_set zN) mX12_set [(2, 211), (0, r17), (1, 1)] zN σ18 (zQv (fun σ20 => Z X (rX12_weigh zN) mX12_weigh 22 [(2, 211), (0, x1), (0, (x2 + 1)), (9, 0)] [] zN σ20 (zQz T)))))))))))))))) ∧ ((¬ ((σ 211 26) ≤ x3)) → ZC X (rX12_cell zN) mX12_cell [(2, 211), (0, x2), (0, x3)] zN σ (zQi (fun r21 σ22 => (Fix σ22) ∧ (0 ≤ x2) ∧ (x2 < 8) ∧ (0 ≤ x3) ∧ (x3 < 8) ∧ ZC X (rX12_between zN) mX12_between [(2, 211), (0, x1), (0, (σ22 228 x2)), (0, (σ22 228 x3))] zN σ22 (zQi (fun r28 σ29 => (r32 x2) ∧ ((¬ x2 = x3) → (r32 (r28 - 0)) ∧ ZC X (rX12_set zN) mX12_set [(2, 211), (0, r21), (1, (r28 - 0))] zN σ29 (zQv (fun σ33 => Z X (rX12_weigh zN) mX12_weigh 32 [(2, 211), (0, x1), (0, x2), (0, (x3 + 1))] [] zN σ33 (zQz T)))) ∧ ((x2 = x3) → (Fix σ29) ∧ (0 ≤ (σ29 228 x2)) ∧ ((σ29 228 x2) < 8) ∧ (r32 (r28 - (σ29 219 (σ29 228 x2)))) ∧ ZC X (rX12_set zN) mX12_set [(2, 211), (0, r21), (1, (r28 - (σ29 219 (σ29 228 x2))))] zN σ29 (zQv (fun σ39 => Z X (rX12_weigh zN) mX12_weigh 32 [(2, 211), (0, x1), (0, x2), (0, (x3 + 1))] [] zN σ39 (zQz T)))))))))) : Z X (rX12_weigh zN) mX12_weigh 32 [(2, 211), (0, x1), (0, x2), (0, x3)] [] zN σ (zQz T) := by
  refine Z_iload_n 3 dX12_weigh_32 rfl rfl ?_
  refine Z_aload_n 0 dX12_weigh_33 rfl rfl ?_
  refine Z_get (T := TX12) (N := 30) (ci := 12) (t := 0) 26 dX12_weigh_34 la_211 (z_leN la_211 (by decide)) rfl (by decide) inX12 (by decide) (flX12_214 rfl) rfl ?_
  obtain ⟨g1, h⟩ := h
  obtain ⟨g2, h⟩ := h
  refine Z_icmp_ge (tgt := 95) dX12_weigh_37 (by decide) g1 g2 (fun c => ?_) (fun c => ?_)
  · replace h := h.1 c
    refine Z_aload_n 0 dX12_weigh_95 rfl rfl ?_
    refine Z_aload_n 0 dX12_weigh_96 rfl rfl ?_
    refine Z_iload_n 2 dX12_weigh_97 rfl rfl ?_
    refine Z_aload_n 0 dX12_weigh_98 rfl rfl ?_
    refine Z_get (T := TX12) (N := 30) (ci := 12) (t := 0) 26 dX12_weigh_99 la_211 (z_leN la_211 (by decide)) rfl (by decide) inX12 (by decide) (flX12_214 rfl) rfl ?_
    refine Z_invV (T := TX12) (N := 30) (ci := 12) (M' := mX12_cell) (ρ' := rX12_cell zN) (st := [(2, 211)]) [(0, x2), (0, (σ 211 26))] dX12_weigh_102 rfl rfl la_211 (z_leN la_211 (by decide)) (by decide) rfl rfl (kX12_cell.cl (Nat.le_of_ble_eq_true rfl) (Nat.le_refl _) (Nat.le_refl _) (Nat.le_of_ble_eq_true rfl) (Nat.le_of_ble_eq_true rfl) (Nat.le_of_ble_eq_true rfl)) (mlX12_153 rfl) iX12_cell sX12_cell h (z_ki (fun r3 σ4 h => ?_))
    refine Z_lconst (x := 1) dX12_weigh_105 rfl ?_
    refine Z_invV (T := TX12) (N := 30) (ci := 12) (M' := mX12_set) (ρ' := rX12_set zN) (st := []) [(0, r3), (1, 1)] dX12_weigh_106 rfl rfl la_211 (z_leN la_211 (by decide)) (by decide) rfl rfl (kX12_set.cl (Nat.le_of_ble_eq_true rfl) (Nat.le_refl _) (Nat.le_refl _) (Nat.le_of_ble_eq_true rfl) (Nat.le_of_ble_eq_true rfl) (Nat.le_of_ble_eq_true rfl)) (mlX12_73 rfl) iX12_set sX12_set h (z_kv (fun σ6 h => ?_))
    refine Z_aload_n 0 dX12_weigh_109 rfl rfl ?_
    refine Z_aload_n 0 dX12_weigh_110 rfl rfl ?_
    refine Z_iload_n 2 dX12_weigh_111 rfl rfl ?_
    refine Z_aload_n 0 dX12_weigh_112 rfl rfl ?_
    refine Z_get (T := TX12) (N := 30) (ci := 12) (t := 0) 26 dX12_weigh_113 la_211 (z_leN la_211 (by decide)) rfl (by decide) inX12 (by decide) (flX12_214 rfl) rfl ?_
    refine Z_iconst dX12_weigh_116 ?_
    refine Z_iadd dX12_weigh_117 ?_
    refine Z_invV (T := TX12) (N := 30) (ci := 12) (M' := mX12_cell) (ρ' := rX12_cell zN) (st := [(2, 211)]) [(0, x2), (0, ((σ6 211 26) + 1))] dX12_weigh_118 rfl rfl la_211 (z_leN la_211 (by decide)) (by decide) rfl rfl (kX12_cell.cl (Nat.le_of_ble_eq_true rfl) (Nat.le_refl _) (Nat.le_refl _) (Nat.le_of_ble_eq_true rfl) (Nat.le_of_ble_eq_true rfl) (Nat.le_of_ble_eq_true rfl)) (mlX12_153 rfl) iX12_cell sX12_cell h (z_ki (fun r7 σ8 h => ?_))
    refine Z_aload_n 0 dX12_weigh_121 rfl rfl ?_
    refine Z_iload_n 1 dX12_weigh_122 rfl rfl ?_
    refine Z_aload_n 0 dX12_weigh_123 rfl rfl ?_
    obtain ⟨g9, h⟩ := h
    refine Z_get (T := TX12) (N := 30) (ci := 12) (t := 2) 27 dX12_weigh_124 la_211 (z_leN la_211 (by decide)) rfl (by decide) inX12 (by decide) (flX12_66 rfl) rfl ?_
    refine Z_top (y := 228) ((Fix.get g9 la_211 27 17 (by decide +kernel)).trans (by clear h; omega)) ?_
    refine Z_iload_n 2 dX12_weigh_127 rfl rfl ?_
    obtain ⟨g10, h⟩ := h
    obtain ⟨g11, h⟩ := h
    refine Z_iald dX12_weigh_128 la_228 (z_leN la_228 (by decide)) g10 g11 ?_
    refine Z_invV (T := TX12) (N := 30) (ci := 12) (M' := mX12_toPlaces) (ρ' := rX12_toPlaces zN) (st := [(0, r7), (2, 211)]) [(0, x1), (0, (σ8 228 x2))] dX12_weigh_129 rfl rfl la_211 (z_leN la_211 (by decide)) (by decide) rfl rfl (kX12_toPlaces.cl (Nat.le_of_ble_eq_true rfl) (Nat.le_refl _) (Nat.le_refl _) (Nat.le_of_ble_eq_true rfl) (Nat.le_of_ble_eq_true rfl) (Nat.le_of_ble_eq_true rfl)) (mlX12_224 rfl) iX12_toPlaces sX12_toPlaces h (z_ki (fun r12 σ13 h => ?_))
    obtain ⟨g14, h⟩ := h
    refine Z_i2l dX12_weigh_132 g14 ?_
    refine Z_invV (T := TX12) (N := 30) (ci := 12) (M' := mX12_set) (ρ' := rX12_set zN) (st := []) [(0, r7), (1, r12)] dX12_weigh_133 rfl rfl la_211 (z_leN la_211 (by decide)) (by decide) rfl rfl (kX12_set.cl (Nat.le_of_ble_eq_true rfl) (Nat.le_refl _) (Nat.le_refl _) (Nat.le_of_ble_eq_true rfl) (Nat.le_of_ble_eq_true rfl) (Nat.le_of_ble_eq_true rfl)) (mlX12_73 rfl) iX12_set sX12_set h (z_kv (fun σ16 h => ?_))
    refine Z_aload_n 0 dX12_weigh_136 rfl rfl ?_
    refine Z_aload_n 0 dX12_weigh_137 rfl rfl ?_
    refine Z_aload_n 0 dX12_weigh_138 rfl rfl ?_
    refine Z_get (T := TX12) (N := 30) (ci := 12) (t := 0) 26 dX12_weigh_139 la_211 (z_leN la_211 (by decide)) rfl (by decide) inX12 (by decide) (flX12_214 rfl) rfl ?_
    refine Z_iload_n 2 dX12_weigh_142 rfl rfl ?_
    refine Z_invV (T := TX12) (N := 30) (ci := 12) (M' := mX12_cell) (ρ' := rX12_cell zN) (st := [(2, 211)]) [(0, (σ16 211 26)), (0, x2)] dX12_weigh_143 rfl rfl la_211 (z_leN la_211 (by decide)) (by decide) rfl rfl (kX12_cell.cl (Nat.le_of_ble_eq_true rfl) (Nat.le_refl _) (Nat.le_refl _) (Nat.le_of_ble_eq_true rfl) (Nat.le_of_ble_eq_true rfl) (Nat.le_of_ble_eq_true rfl)) (mlX12_153 rfl) iX12_cell sX12_cell h (z_ki (fun r17 σ18 h => ?_))
    refine Z_lconst (x := 1) dX12_weigh_146 rfl ?_
    refine Z_invV (T := TX12) (N := 30) (ci := 12) (M' := mX12_set) (ρ' := rX12_set zN) (st := []) [(0, r17), (1, 1)] dX12_weigh_147 rfl rfl la_211 (z_leN la_211 (by decide)) (by decide) rfl rfl (kX12_set.cl (Nat.le_of_ble_eq_true rfl) (Nat.le_refl _) (Nat.le_refl _) (Nat.le_of_ble_eq_true rfl) (Nat.le_of_ble_eq_true rfl) (Nat.le_of_ble_eq_true rfl)) (mlX12_73 rfl) iX12_set sX12_set h (z_kv (fun σ20 h => ?_))
    refine Z_iinc (L' := [(2, 211), (0, x1), (0, (x2 + 1)), (0, x3)]) dX12_weigh_150 rfl (Nat.le_of_ble_eq_true rfl) rfl ?_
    refine Z_goto (tgt := 22) dX12_weigh_153 (by decide) ?_
    exact Z_few (z_few_k (z_few_k (z_few_k (z_few_d z_few_0)))) h
  · replace h := h.2 c
    refine Z_aload_n 0 dX12_weigh_40 rfl rfl ?_
    refine Z_aload_n 0 dX12_weigh_41 rfl rfl ?_
    refine Z_iload_n 2 dX12_weigh_42 rfl rfl ?_
    refine Z_iload_n 3 dX12_weigh_43 rfl rfl ?_
    refine Z_invV (T := TX12) (N := 30) (ci := 12) (M' := mX12_cell) (ρ' := rX12_cell zN) (st := [(2, 211)]) [(0, x2), (0, x3)] dX12_weigh_44 rfl rfl la_211 (z_leN la_211 (by decide)) (by decide) rfl rfl (kX12_cell.cl (Nat.le_of_ble_eq_true rfl) (Nat.le_refl _) (Nat.le_refl _) (Nat.le_of_ble_eq_true rfl) (Nat.le_of_ble_eq_true rfl) (Nat.le_of_ble_eq_true rfl)) (mlX12_153 rfl) iX12_cell sX12_cell h (z_ki (fun r21 σ22 h => ?_))
    refine Z_aload_n 0 dX12_weigh_47 rfl rfl ?_
    refine Z_iload_n 1 dX12_weigh_48 rfl rfl ?_
    refine Z_aload_n 0 dX12_weigh_49 rfl rfl ?_
    obtain ⟨g23, h⟩ := h
    refine Z_get (T := TX12) (N := 30) (ci := 12) (t := 2) 27 dX12_weigh_50 la_211 (z_leN la_211 (by decide)) rfl (by decide) inX12 (by decide) (flX12_66 rfl) rfl ?_
    refine Z_top (y := 228) ((Fix.get g23 la_211 27 17 (by decide +kernel)).trans (by clear h; omega)) ?_
    refine Z_iload_n 2 dX12_weigh_53 rfl rfl ?_
    obtain ⟨g24, h⟩ := h
    obtain ⟨g25, h⟩ := h
    refine Z_iald dX12_weigh_54 la_228 (z_leN la_228 (by decide)) g24 g25 ?_
    refine Z_aload_n 0 dX12_weigh_55 rfl rfl ?_
    refine Z_get (T := TX12) (N := 30) (ci := 12) (t := 2) 27 dX12_weigh_56 la_211 (z_leN la_211 (by decide)) rfl (by decide) inX12 (by decide) (flX12_66 rfl) rfl ?_
    refine Z_top (y := 228) ((Fix.get g23 la_211 27 17 (by decide +kernel)).trans (by clear h; omega)) ?_
    refine Z_iload_n 3 dX12_weigh_59 rfl rfl ?_
    obtain ⟨g26, h⟩ := h
    obtain ⟨g27, h⟩ := h
    refine Z_iald dX12_weigh_60 la_228 (z_leN la_228 (by decide)) g26 g27 ?_
    refine Z_invV (T := TX12) (N := 30) (ci := 12) (M' := mX12_between) (ρ' := rX12_between zN) (st := [(0, r21), (2, 211)]) [(0, x1), (0, (σ22 228 x2)), (0, (σ22 228 x3))] dX12_weigh_61 rfl rfl la_211 (z_leN la_211 (by decide)) (by decide) rfl rfl (kX12_between.cl (Nat.le_of_ble_eq_true rfl) (Nat.le_refl _) (Nat.le_refl _) (Nat.le_of_ble_eq_true rfl) (Nat.le_of_ble_eq_true rfl) (Nat.le_of_ble_eq_true rfl)) (mlX12_220 rfl) iX12_between sX12_between h (z_ki (fun r28 σ29 h => ?_))
    refine Z_iload_n 2 dX12_weigh_64 rfl rfl ?_
    refine Z_iload_n 3 dX12_weigh_65 rfl rfl ?_
    obtain ⟨g30, h⟩ := h
    refine Z_icmp_ne (tgt := 83) dX12_weigh_66 (by decide) g30 g1 (fun c => ?_) (fun c => ?_)
    · replace h := h.1 c
      refine Z_iconst dX12_weigh_83 ?_
      refine Z_isub dX12_weigh_84 ?_
      obtain ⟨g31, h⟩ := h
      refine Z_i2l dX12_weigh_85 g31 ?_
      refine Z_invV (T := TX12) (N := 30) (ci := 12) (M' := mX12_set) (ρ' := rX12_set zN) (st := []) [(0, r21), (1, (r28 - 0))] dX12_weigh_86 rfl rfl la_211 (z_leN la_211 (by decide)) (by decide) rfl rfl (kX12_set.cl (Nat.le_of_ble_eq_true rfl) (Nat.le_refl _) (Nat.le_refl _) (Nat.le_of_ble_eq_true rfl) (Nat.le_of_ble_eq_true rfl) (Nat.le_of_ble_eq_true rfl)) (mlX12_73 rfl) iX12_set sX12_set h (z_kv (fun σ33 h => ?_))
      refine Z_iinc (L' := [(2, 211), (0, x1), (0, x2), (0, (x3 + 1))]) dX12_weigh_89 rfl (Nat.le_of_ble_eq_true rfl) rfl ?_
      refine Z_goto (tgt := 32) dX12_weigh_92 (by decide) ?_
      exact Z_few (z_few_k (z_few_k (z_few_k (z_few_k z_few_0)))) h
    · replace h := h.2 c
      refine Z_aload_n 0 dX12_weigh_69 rfl rfl ?_
      obtain ⟨g34, h⟩ := h
      refine Z_get (T := TX12) (N := 30) (ci := 12) (t := 2) 8 dX12_weigh_70 la_211 (z_leN la_211 (by decide)) rfl (by decide) inX12 (by decide) (flX12_32 rfl) rfl ?_
      refine Z_top (y := 219) ((Fix.get g34 la_211 8 8 (by decide +kernel)).trans (by clear h; omega)) ?_
      refine Z_aload_n 0 dX12_weigh_73 rfl rfl ?_
      refine Z_get (T := TX12) (N := 30) (ci := 12) (t := 2) 27 dX12_weigh_74 la_211 (z_leN la_211 (by decide)) rfl (by decide) inX12 (by decide) (flX12_66 rfl) rfl ?_
      refine Z_top (y := 228) ((Fix.get g34 la_211 27 17 (by decide +kernel)).trans (by clear h; omega)) ?_
      refine Z_iload_n 2 dX12_weigh_77 rfl rfl ?_
      refine Z_iald dX12_weigh_78 la_228 (z_leN la_228 (by decide)) g24 g25 ?_
      obtain ⟨g35, h⟩ := h
      obtain ⟨g36, h⟩ := h
      refine Z_iald dX12_weigh_79 la_219 (z_leN la_219 (by decide)) g35 g36 ?_
      refine Z_goto (tgt := 84) dX12_weigh_80 (by decide) ?_
      refine Z_isub dX12_weigh_84 ?_
      obtain ⟨g37, h⟩ := h
      refine Z_i2l dX12_weigh_85 g37 ?_
      refine Z_invV (T := TX12) (N := 30) (ci := 12) (M' := mX12_set) (ρ' := rX12_set zN) (st := []) [(0, r21), (1, (r28 - (σ29 219 (σ29 228 x2))))] dX12_weigh_86 rfl rfl la_211 (z_leN la_211 (by decide)) (by decide) rfl rfl (kX12_set.cl (Nat.le_of_ble_eq_true rfl) (Nat.le_refl _) (Nat.le_refl _) (Nat.le_of_ble_eq_true rfl) (Nat.le_of_ble_eq_true rfl) (Nat.le_of_ble_eq_true rfl)) (mlX12_73 rfl) iX12_set sX12_set h (z_kv (fun σ39 h => ?_))
      refine Z_iinc (L' := [(2, 211), (0, x1), (0, x2), (0, (x3 + 1))]) dX12_weigh_89 rfl (Nat.le_of_ble_eq_true rfl) rfl ?_
      refine Z_goto (tgt := 32) dX12_weigh_92 (by decide) ?_
      exact Z_few (z_few_k (z_few_k (z_few_k (z_few_k z_few_0)))) h
theorem bk_X12_told {X : ZS} {σ : ZM} {T : Int → ZM → Prop} {x1 : Int} (h : (Fix σ) ∧ (0 ≤ x1) ∧ (x1 < 10) ∧ ZC X (rX12_cell zN) mX12_cell [(2, 211), (0, (σ 224 x1)), (0, ((σ 211 26) + 1))] zN σ (zQi (fun r4 σ5 => T r4 σ5))) : ZC X (rX12_told zN) mX12_told [(2, 211), (0, x1)] zN σ (zQi T) := by
  show Z X _ _ 0 [(2, 211), (0, x1)] [] _ σ _
  refine Z_aload_n 0 dX12_told_0 rfl rfl ?_
  refine Z_aload_n 0 dX12_told_1 rfl rfl ?_
  obtain ⟨g1, h⟩ := h
  refine Z_get (T := TX12) (N := 30) (ci := 12) (t := 2) 21 dX12_told_2 la_211 (z_leN la_211 (by decide)) rfl (by decide) inX12 (by decide) (flX12_54 rfl) rfl ?_
  refine Z_top (y := 224) ((Fix.get g1 la_211 21 13 (by decide +kernel)).trans (by clear h; omega)) ?_
  refine Z_iload_n 1 dX12_told_5 rfl rfl ?_
  obtain ⟨g2, h⟩ := h
  obtain ⟨g3, h⟩ := h
  refine Z_iald dX12_told_6 la_224 (z_leN la_224 (by decide)) g2 g3 ?_
  refine Z_aload_n 0 dX12_told_7 rfl rfl ?_
  refine Z_get (T := TX12) (N := 30) (ci := 12) (t := 0) 26 dX12_told_8 la_211 (z_leN la_211 (by decide)) rfl (by decide) inX12 (by decide) (flX12_214 rfl) rfl ?_
  refine Z_iconst dX12_told_11 ?_
  refine Z_iadd dX12_told_12 ?_
  refine Z_invV (T := TX12) (N := 30) (ci := 12) (M' := mX12_cell) (ρ' := rX12_cell zN) (st := []) [(0, (σ 224 x1)), (0, ((σ 211 26) + 1))] dX12_told_13 rfl rfl la_211 (z_leN la_211 (by decide)) (by decide) rfl rfl (kX12_cell.cl (Nat.le_of_ble_eq_true rfl) (Nat.le_refl _) (Nat.le_refl _) (Nat.le_of_ble_eq_true rfl) (Nat.le_of_ble_eq_true rfl) (Nat.le_of_ble_eq_true rfl)) (mlX12_153 rfl) iX12_cell sX12_cell h (z_ki (fun r4 σ5 h => ?_))
  exact Z_ireturn dX12_told_16 rfl rfl ⟨rfl, h⟩
theorem bk_X12_guess {X : ZS} {σ : ZM} {T : ZM → Prop} {x1 : Int} (h : ZC X (rX12_set zN) mX12_set [(2, 211), (0, x1), (1, 0)] zN σ (zQv (fun σ2 => Z X (rX12_guess zN) mX12_guess 8 [(2, 211), (0, x1), (0, 0)] [] zN σ2 (zQv T)))) : ZC X (rX12_guess zN) mX12_guess [(2, 211), (0, x1)] zN σ (zQv T) := by
  show Z X _ _ 0 [(2, 211), (0, x1), (9, 0)] [] _ σ _
  refine Z_aload_n 0 dX12_guess_0 rfl rfl ?_
  refine Z_iload_n 1 dX12_guess_1 rfl rfl ?_
  refine Z_lconst (x := 0) dX12_guess_2 rfl ?_
  refine Z_invV (T := TX12) (N := 30) (ci := 12) (M' := mX12_set) (ρ' := rX12_set zN) (st := []) [(0, x1), (1, 0)] dX12_guess_3 rfl rfl la_211 (z_leN la_211 (by decide)) (by decide) rfl rfl (kX12_set.cl (Nat.le_of_ble_eq_true rfl) (Nat.le_refl _) (Nat.le_refl _) (Nat.le_of_ble_eq_true rfl) (Nat.le_of_ble_eq_true rfl) (Nat.le_of_ble_eq_true rfl)) (mlX12_73 rfl) iX12_set sX12_set h (z_kv (fun σ2 h => ?_))
  refine Z_iconst dX12_guess_6 ?_
  refine Z_istore_n (L' := [(2, 211), (0, x1), (0, 0)]) 2 dX12_guess_7 rfl (Nat.le_of_ble_eq_true rfl) rfl ?_
  exact Z_few (z_few_k (z_few_k (z_few_k z_few_0))) h
theorem bk_X12_guess_8 {X : ZS} {σ : ZM} {T : ZM → Prop} {x1 : Int} {x2 : Int} (h : (r32 x2) ∧ (r32 (σ 211 26)) ∧ (((σ 211 26) ≤ x2) → T σ) ∧ ((¬ ((σ 211 26) ≤ x2)) → ZC X (rX12_told zN) mX12_told [(2, 211), (0, x2)] zN σ (zQi (fun r3 σ4 => (Fix σ4) ∧ (0 ≤ x2) ∧ (x2 < 8) ∧ (0 ≤ (σ4 228 x2)) ∧ ((σ4 228 x2) < 8) ∧ (r32 (σ4 218 (σ4 228 x2))) ∧ ZC X (rX12_more zN) mX12_more [(2, 211), (0, x1), (0, r3), (1, (σ4 218 (σ4 228 x2)))] zN σ4 (zQv (fun σ12 => Z X (rX12_guess zN) mX12_guess 8 [(2, 211), (0, x1), (0, (x2 + 1))] [] zN σ12 (zQv T))))))) : Z X (rX12_guess zN) mX12_guess 8 [(2, 211), (0, x1), (0, x2)] [] zN σ (zQv T) := by
  refine Z_iload_n 2 dX12_guess_8 rfl rfl ?_
  refine Z_aload_n 0 dX12_guess_9 rfl rfl ?_
  refine Z_get (T := TX12) (N := 30) (ci := 12) (t := 0) 26 dX12_guess_10 la_211 (z_leN la_211 (by decide)) rfl (by decide) inX12 (by decide) (flX12_214 rfl) rfl ?_
  obtain ⟨g1, h⟩ := h
  obtain ⟨g2, h⟩ := h
  refine Z_icmp_ge (tgt := 44) dX12_guess_13 (by decide) g1 g2 (fun c => ?_) (fun c => ?_)
  · replace h := h.1 c
    exact Z_return dX12_guess_44 rfl rfl ⟨rfl, h⟩
  · replace h := h.2 c
    refine Z_aload_n 0 dX12_guess_16 rfl rfl ?_
    refine Z_iload_n 1 dX12_guess_17 rfl rfl ?_
    refine Z_aload_n 0 dX12_guess_18 rfl rfl ?_
    refine Z_iload_n 2 dX12_guess_19 rfl rfl ?_
    refine Z_invV (T := TX12) (N := 30) (ci := 12) (M' := mX12_told) (ρ' := rX12_told zN) (st := [(0, x1), (2, 211)]) [(0, x2)] dX12_guess_20 rfl rfl la_211 (z_leN la_211 (by decide)) (by decide) rfl rfl (kX12_told.cl (Nat.le_of_ble_eq_true rfl) (Nat.le_refl _) (Nat.le_refl _) (Nat.le_of_ble_eq_true rfl) (Nat.le_of_ble_eq_true rfl) (Nat.le_of_ble_eq_true rfl)) (mlX12_230 rfl) iX12_told sX12_told h (z_ki (fun r3 σ4 h => ?_))
    refine Z_aload_n 0 dX12_guess_23 rfl rfl ?_
    obtain ⟨g5, h⟩ := h
    refine Z_get (T := TX12) (N := 30) (ci := 12) (t := 2) 7 dX12_guess_24 la_211 (z_leN la_211 (by decide)) rfl (by decide) inX12 (by decide) (flX12_29 rfl) rfl ?_
    refine Z_top (y := 218) ((Fix.get g5 la_211 7 7 (by decide +kernel)).trans (by clear h; omega)) ?_
    refine Z_aload_n 0 dX12_guess_27 rfl rfl ?_
    refine Z_get (T := TX12) (N := 30) (ci := 12) (t := 2) 27 dX12_guess_28 la_211 (z_leN la_211 (by decide)) rfl (by decide) inX12 (by decide) (flX12_66 rfl) rfl ?_
    refine Z_top (y := 228) ((Fix.get g5 la_211 27 17 (by decide +kernel)).trans (by clear h; omega)) ?_
    refine Z_iload_n 2 dX12_guess_31 rfl rfl ?_
    obtain ⟨g6, h⟩ := h
    obtain ⟨g7, h⟩ := h
    refine Z_iald dX12_guess_32 la_228 (z_leN la_228 (by decide)) g6 g7 ?_
    obtain ⟨g8, h⟩ := h
    obtain ⟨g9, h⟩ := h
    refine Z_iald dX12_guess_33 la_218 (z_leN la_218 (by decide)) g8 g9 ?_
    obtain ⟨g10, h⟩ := h
    refine Z_i2l dX12_guess_34 g10 ?_
    refine Z_invV (T := TX12) (N := 30) (ci := 12) (M' := mX12_more) (ρ' := rX12_more zN) (st := []) [(0, x1), (0, r3), (1, (σ4 218 (σ4 228 x2)))] dX12_guess_35 rfl rfl la_211 (z_leN la_211 (by decide)) (by decide) rfl rfl (kX12_more.cl (Nat.le_of_ble_eq_true rfl) (Nat.le_refl _) (Nat.le_refl _) (Nat.le_of_ble_eq_true rfl) (Nat.le_of_ble_eq_true rfl) (Nat.le_of_ble_eq_true rfl)) (mlX12_134 rfl) iX12_more sX12_more h (z_kv (fun σ12 h => ?_))
    refine Z_iinc (L' := [(2, 211), (0, x1), (0, (x2 + 1))]) dX12_guess_38 rfl (Nat.le_of_ble_eq_true rfl) rfl ?_
    refine Z_goto (tgt := 8) dX12_guess_41 (by decide) ?_
    exact Z_few (z_few_k (z_few_k (z_few_k z_few_0))) h
theorem bk_X12_top {X : ZS} {σ : ZM} {T : Int → ZM → Prop} {x1 : Int} (h : T (110 + x1) σ) : ZC X (rX12_top zN) mX12_top [(2, 211), (0, x1)] zN σ (zQi T) := by
  show Z X _ _ 0 [(2, 211), (0, x1)] [] _ σ _
  refine Z_bipush dX12_top_0 (by decide) ?_
  refine Z_iload_n 1 dX12_top_2 rfl rfl ?_
  refine Z_iadd dX12_top_3 ?_
  exact Z_ireturn dX12_top_4 rfl rfl ⟨rfl, h⟩
theorem bk_X12_bottom {X : ZS} {σ : ZM} {T : Int → ZM → Prop} {x1 : Int} (h : T (121 + x1) σ) : ZC X (rX12_bottom zN) mX12_bottom [(2, 211), (0, x1)] zN σ (zQi T) := by
  show Z X _ _ 0 [(2, 211), (0, x1)] [] _ σ _
  refine Z_bipush dX12_bottom_0 (by decide) ?_
  refine Z_iload_n 1 dX12_bottom_2 rfl rfl ?_
  refine Z_iadd dX12_bottom_3 ?_
  exact Z_ireturn dX12_bottom_4 rfl rfl ⟨rfl, h⟩
theorem bk_X12_isAnswered {X : ZS} {σ : ZM} {T : Bool → ZM → Prop}  (h : ZC X (rX12_choose zN) mX12_choose [(2, 211)] zN σ (zQv (fun σ2 => ZC X (rX12_weigh zN) mX12_weigh [(2, 211), (0, (σ2 211 11))] zN σ2 (zQz (fun r3 σ4 => ((r3 = true) → ZC X (rX12_set zN) mX12_set [(2, 211), (0, 7), (1, 0)] zN (z_up σ4 211 13 1) (zQv (fun σ6 => (r32 (σ6 211 23)) ∧ ZC X (rX12_more zN) mX12_more [(2, 211), (0, 7), (0, 8), (1, (σ6 211 23))] zN σ6 (zQv (fun σ9 => ZC X (rX12_top zN) mX12_top [(2, 211), (0, 0)] zN σ9 (zQi (fun r10 σ11 => ZC X (rX12_guess zN) mX12_guess [(2, 211), (0, r10)] zN σ11 (zQv (fun σ13 => ZC X (rX12_bottom zN) mX12_bottom [(2, 211), (0, 0)] zN σ13 (zQi (fun r14 σ15 => ZC X (rX12_copy zN) mX12_copy [(2, 211), (0, r14), (0, 7)] zN σ15 (zQv (fun σ17 => ZC X (rX12_top zN) mX12_top [(2, 211), (0, 2)] zN σ17 (zQi (fun r18 σ19 => ZC X (rX12_told zN) mX12_told [(2, 211), (0, (σ19 211 26))] zN σ19 (zQi (fun r20 σ21 => ZC X (rX12_copy zN) mX12_copy [(2, 211), (0, r18), (0, r20)] zN σ21 (zQv (fun σ23 => ZC X (rX12_bottom zN) mX12_bottom [(2, 211), (0, 2)] zN σ23 (zQi (fun r24 σ25 => ZC X (rX12_copy zN) mX12_copy [(2, 211), (0, r24), (0, 7)] zN σ25 (zQv (fun σ27 => Z X (rX12_isAnswered zN) mX12_isAnswered 92 [(2, 211), (0, 0), (9, 0), (9, 0), (9, 0)] [] zN σ27 (zQz T)))))))))))))))))))))))) ∧ ((r3 = false) → T false σ4)))))) : ZC X (rX12_isAnswered zN) mX12_isAnswered [(2, 211)] zN σ (zQz T) := by
  show Z X _ _ 0 [(2, 211), (9, 0), (9, 0), (9, 0), (9, 0)] [] _ σ _
  refine Z_aload_n 0 dX12_isAnswered_0 rfl rfl ?_
  refine Z_invV (T := TX12) (N := 30) (ci := 12) (M' := mX12_choose) (ρ' := rX12_choose zN) (st := []) [] dX12_isAnswered_1 rfl rfl la_211 (z_leN la_211 (by decide)) (by decide) rfl rfl (kX12_choose.cl (Nat.le_of_ble_eq_true rfl) (Nat.le_refl _) (Nat.le_refl _) (Nat.le_of_ble_eq_true rfl) (Nat.le_of_ble_eq_true rfl) (Nat.le_of_ble_eq_true rfl)) (mlX12_233 rfl) iX12_choose sX12_choose h (z_kv (fun σ2 h => ?_))
  refine Z_aload_n 0 dX12_isAnswered_4 rfl rfl ?_
  refine Z_aload_n 0 dX12_isAnswered_5 rfl rfl ?_
  refine Z_get (T := TX12) (N := 30) (ci := 12) (t := 0) 11 dX12_isAnswered_6 la_211 (z_leN la_211 (by decide)) rfl (by decide) inX12 (by decide) (flX12_38 rfl) rfl ?_
  refine Z_invV (T := TX12) (N := 30) (ci := 12) (M' := mX12_weigh) (ρ' := rX12_weigh zN) (st := []) [(0, (σ2 211 11))] dX12_isAnswered_9 rfl rfl la_211 (z_leN la_211 (by decide)) (by decide) rfl rfl (kX12_weigh.cl (Nat.le_of_ble_eq_true rfl) (Nat.le_refl _) (Nat.le_refl _) (Nat.le_of_ble_eq_true rfl) (Nat.le_of_ble_eq_true rfl) (Nat.le_of_ble_eq_true rfl)) (mlX12_236 rfl) iX12_weigh sX12_weigh h (z_kz (fun r3 σ4 h => ?_))
  refine Z_zif_ne (tgt := 17) dX12_isAnswered_12 (by decide) (fun c => ?_) (fun c => ?_)
  · replace h := h.1 c
    refine Z_aload_n 0 dX12_isAnswered_17 rfl rfl ?_
    refine Z_iconst dX12_isAnswered_18 ?_
    refine Z_put (T := TX12) (N := 30) (ci := 12) (t := 0) tyX12 13 dX12_isAnswered_19 la_211 (z_leN la_211 (by decide)) rfl (by decide) inX12 (by decide) (plX12_186 rfl) rfl tyX12_ok nmX12 rfl (z_nf_z (Or.inr rfl)) ?_
    refine Z_aload_n 0 dX12_isAnswered_22 rfl rfl ?_
    refine Z_bipush dX12_isAnswered_23 (by decide) ?_
    refine Z_lconst (x := 0) dX12_isAnswered_25 rfl ?_
    refine Z_invV (T := TX12) (N := 30) (ci := 12) (M' := mX12_set) (ρ' := rX12_set zN) (st := []) [(0, 7), (1, 0)] dX12_isAnswered_26 rfl rfl la_211 (z_leN la_211 (by decide)) (by decide) rfl rfl (kX12_set.cl (Nat.le_of_ble_eq_true rfl) (Nat.le_refl _) (Nat.le_refl _) (Nat.le_of_ble_eq_true rfl) (Nat.le_of_ble_eq_true rfl) (Nat.le_of_ble_eq_true rfl)) (mlX12_73 rfl) iX12_set sX12_set h (z_kv (fun σ6 h => ?_))
    refine Z_aload_n 0 dX12_isAnswered_29 rfl rfl ?_
    refine Z_bipush dX12_isAnswered_30 (by decide) ?_
    refine Z_bipush dX12_isAnswered_32 (by decide) ?_
    refine Z_aload_n 0 dX12_isAnswered_34 rfl rfl ?_
    refine Z_get (T := TX12) (N := 30) (ci := 12) (t := 0) 23 dX12_isAnswered_35 la_211 (z_leN la_211 (by decide)) rfl (by decide) inX12 (by decide) (flX12_211 rfl) rfl ?_
    obtain ⟨g7, h⟩ := h
    refine Z_i2l dX12_isAnswered_38 g7 ?_
    refine Z_invV (T := TX12) (N := 30) (ci := 12) (M' := mX12_more) (ρ' := rX12_more zN) (st := []) [(0, 7), (0, 8), (1, (σ6 211 23))] dX12_isAnswered_39 rfl rfl la_211 (z_leN la_211 (by decide)) (by decide) rfl rfl (kX12_more.cl (Nat.le_of_ble_eq_true rfl) (Nat.le_refl _) (Nat.le_refl _) (Nat.le_of_ble_eq_true rfl) (Nat.le_of_ble_eq_true rfl) (Nat.le_of_ble_eq_true rfl)) (mlX12_134 rfl) iX12_more sX12_more h (z_kv (fun σ9 h => ?_))
    refine Z_aload_n 0 dX12_isAnswered_42 rfl rfl ?_
    refine Z_aload_n 0 dX12_isAnswered_43 rfl rfl ?_
    refine Z_iconst dX12_isAnswered_44 ?_
    refine Z_invV (T := TX12) (N := 30) (ci := 12) (M' := mX12_top) (ρ' := rX12_top zN) (st := [(2, 211)]) [(0, 0)] dX12_isAnswered_45 rfl rfl la_211 (z_leN la_211 (by decide)) (by decide) rfl rfl (kX12_top.cl (Nat.le_of_ble_eq_true rfl) (Nat.le_refl _) (Nat.le_refl _) (Nat.le_of_ble_eq_true rfl) (Nat.le_of_ble_eq_true rfl) (Nat.le_of_ble_eq_true rfl)) (mlX12_239 rfl) iX12_top sX12_top h (z_ki (fun r10 σ11 h => ?_))
    refine Z_invV (T := TX12) (N := 30) (ci := 12) (M' := mX12_guess) (ρ' := rX12_guess zN) (st := []) [(0, r10)] dX12_isAnswered_48 rfl rfl la_211 (z_leN la_211 (by decide)) (by decide) rfl rfl (kX12_guess.cl (Nat.le_of_ble_eq_true rfl) (Nat.le_refl _) (Nat.le_refl _) (Nat.le_of_ble_eq_true rfl) (Nat.le_of_ble_eq_true rfl) (Nat.le_of_ble_eq_true rfl)) (mlX12_242 rfl) iX12_guess sX12_guess h (z_kv (fun σ13 h => ?_))
    refine Z_aload_n 0 dX12_isAnswered_51 rfl rfl ?_
    refine Z_aload_n 0 dX12_isAnswered_52 rfl rfl ?_
    refine Z_iconst dX12_isAnswered_53 ?_
    refine Z_invV (T := TX12) (N := 30) (ci := 12) (M' := mX12_bottom) (ρ' := rX12_bottom zN) (st := [(2, 211)]) [(0, 0)] dX12_isAnswered_54 rfl rfl la_211 (z_leN la_211 (by decide)) (by decide) rfl rfl (kX12_bottom.cl (Nat.le_of_ble_eq_true rfl) (Nat.le_refl _) (Nat.le_refl _) (Nat.le_of_ble_eq_true rfl) (Nat.le_of_ble_eq_true rfl) (Nat.le_of_ble_eq_true rfl)) (mlX12_245 rfl) iX12_bottom sX12_bottom h (z_ki (fun r14 σ15 h => ?_))
    refine Z_bipush dX12_isAnswered_57 (by decide) ?_
    refine Z_invV (T := TX12) (N := 30) (ci := 12) (M' := mX12_copy) (ρ' := rX12_copy zN) (st := []) [(0, r14), (0, 7)] dX12_isAnswered_59 rfl rfl la_211 (z_leN la_211 (by decide)) (by decide) rfl rfl (kX12_copy.cl (Nat.le_of_ble_eq_true rfl) (Nat.le_refl _) (Nat.le_refl _) (Nat.le_of_ble_eq_true rfl) (Nat.le_of_ble_eq_true rfl) (Nat.le_of_ble_eq_true rfl)) (mlX12_118 rfl) iX12_copy sX12_copy h (z_kv (fun σ17 h => ?_))
    refine Z_aload_n 0 dX12_isAnswered_62 rfl rfl ?_
    refine Z_aload_n 0 dX12_isAnswered_63 rfl rfl ?_
    refine Z_iconst dX12_isAnswered_64 ?_
    refine Z_invV (T := TX12) (N := 30) (ci := 12) (M' := mX12_top) (ρ' := rX12_top zN) (st := [(2, 211)]) [(0, 2)] dX12_isAnswered_65 rfl rfl la_211 (z_leN la_211 (by decide)) (by decide) rfl rfl (kX12_top.cl (Nat.le_of_ble_eq_true rfl) (Nat.le_refl _) (Nat.le_refl _) (Nat.le_of_ble_eq_true rfl) (Nat.le_of_ble_eq_true rfl) (Nat.le_of_ble_eq_true rfl)) (mlX12_239 rfl) iX12_top sX12_top h (z_ki (fun r18 σ19 h => ?_))
    refine Z_aload_n 0 dX12_isAnswered_68 rfl rfl ?_
    refine Z_aload_n 0 dX12_isAnswered_69 rfl rfl ?_
    refine Z_get (T := TX12) (N := 30) (ci := 12) (t := 0) 26 dX12_isAnswered_70 la_211 (z_leN la_211 (by decide)) rfl (by decide) inX12 (by decide) (flX12_214 rfl) rfl ?_
    refine Z_invV (T := TX12) (N := 30) (ci := 12) (M' := mX12_told) (ρ' := rX12_told zN) (st := [(0, r18), (2, 211)]) [(0, (σ19 211 26))] dX12_isAnswered_73 rfl rfl la_211 (z_leN la_211 (by decide)) (by decide) rfl rfl (kX12_told.cl (Nat.le_of_ble_eq_true rfl) (Nat.le_refl _) (Nat.le_refl _) (Nat.le_of_ble_eq_true rfl) (Nat.le_of_ble_eq_true rfl) (Nat.le_of_ble_eq_true rfl)) (mlX12_230 rfl) iX12_told sX12_told h (z_ki (fun r20 σ21 h => ?_))
    refine Z_invV (T := TX12) (N := 30) (ci := 12) (M' := mX12_copy) (ρ' := rX12_copy zN) (st := []) [(0, r18), (0, r20)] dX12_isAnswered_76 rfl rfl la_211 (z_leN la_211 (by decide)) (by decide) rfl rfl (kX12_copy.cl (Nat.le_of_ble_eq_true rfl) (Nat.le_refl _) (Nat.le_refl _) (Nat.le_of_ble_eq_true rfl) (Nat.le_of_ble_eq_true rfl) (Nat.le_of_ble_eq_true rfl)) (mlX12_118 rfl) iX12_copy sX12_copy h (z_kv (fun σ23 h => ?_))
    refine Z_aload_n 0 dX12_isAnswered_79 rfl rfl ?_
    refine Z_aload_n 0 dX12_isAnswered_80 rfl rfl ?_
    refine Z_iconst dX12_isAnswered_81 ?_
    refine Z_invV (T := TX12) (N := 30) (ci := 12) (M' := mX12_bottom) (ρ' := rX12_bottom zN) (st := [(2, 211)]) [(0, 2)] dX12_isAnswered_82 rfl rfl la_211 (z_leN la_211 (by decide)) (by decide) rfl rfl (kX12_bottom.cl (Nat.le_of_ble_eq_true rfl) (Nat.le_refl _) (Nat.le_refl _) (Nat.le_of_ble_eq_true rfl) (Nat.le_of_ble_eq_true rfl) (Nat.le_of_ble_eq_true rfl)) (mlX12_245 rfl) iX12_bottom sX12_bottom h (z_ki (fun r24 σ25 h => ?_))
    refine Z_bipush dX12_isAnswered_85 (by decide) ?_
    refine Z_invV (T := TX12) (N := 30) (ci := 12) (M' := mX12_copy) (ρ' := rX12_copy zN) (st := []) [(0, r24), (0, 7)] dX12_isAnswered_87 rfl rfl la_211 (z_leN la_211 (by decide)) (by decide) rfl rfl (kX12_copy.cl (Nat.le_of_ble_eq_true rfl) (Nat.le_refl _) (Nat.le_refl _) (Nat.le_of_ble_eq_true rfl) (Nat.le_of_ble_eq_true rfl) (Nat.le_of_ble_eq_true rfl)) (mlX12_118 rfl) iX12_copy sX12_copy h (z_kv (fun σ27 h => ?_))
    refine Z_iconst dX12_isAnswered_90 ?_
    refine Z_istore_n (L' := [(2, 211), (0, 0), (9, 0), (9, 0), (9, 0)]) 1 dX12_isAnswered_91 rfl (Nat.le_of_ble_eq_true rfl) rfl ?_
    exact Z_few (z_few_k (z_few_k (z_few_k (z_few_k (z_few_k z_few_0))))) h
  · replace h := h.2 c
    refine Z_iconst dX12_isAnswered_15 ?_
    exact Z_zreturn dX12_isAnswered_16 rfl (Or.inl rfl) rfl ⟨rfl, false, rfl, h⟩
theorem bk_X12_isAnswered_92 {X : ZS} {σ : ZM} {T : Bool → ZM → Prop} {x1 : Int} (h : (r32 x1) ∧ ((8 ≤ x1) → Z X (rX12_isAnswered zN) mX12_isAnswered 130 [(2, 211), (0, 0), (9, 0), (9, 0), (9, 0)] [] zN σ (zQz T)) ∧ ((¬ (8 ≤ x1)) → ZC X (rX12_top zN) mX12_top [(2, 211), (0, (3 + x1))] zN σ (zQi (fun r2 σ3 => ZC X (rX12_set zN) mX12_set [(2, 211), (0, r2), (1, 0)] zN σ3 (zQv (fun σ5 => ZC X (rX12_bottom zN) mX12_bottom [(2, 211), (0, (3 + x1))] zN σ5 (zQi (fun r6 σ7 => ZC X (rX12_set zN) mX12_set [(2, 211), (0, r6), (1, 1)] zN σ7 (zQv (fun σ9 => Z X (rX12_isAnswered zN) mX12_isAnswered 92 [(2, 211), (0, (x1 + 1)), (9, 0), (9, 0), (9, 0)] [] zN σ9 (zQz T))))))))))) : Z X (rX12_isAnswered zN) mX12_isAnswered 92 [(2, 211), (0, x1), (9, 0), (9, 0), (9, 0)] [] zN σ (zQz T) := by
  refine Z_iload_n 1 dX12_isAnswered_92 rfl rfl ?_
  refine Z_bipush dX12_isAnswered_93 (by decide) ?_
  obtain ⟨g1, h⟩ := h
  refine Z_icmp_ge (tgt := 128) dX12_isAnswered_95 (by decide) g1 ⟨by decide, by decide⟩ (fun c => ?_) (fun c => ?_)
  · replace h := h.1 c
    refine Z_iconst dX12_isAnswered_128 ?_
    refine Z_istore_n (L' := [(2, 211), (0, 0), (9, 0), (9, 0), (9, 0)]) 1 dX12_isAnswered_129 rfl (Nat.le_of_ble_eq_true rfl) rfl ?_
    exact Z_few (z_few_k (z_few_k (z_few_k (z_few_k (z_few_k z_few_0))))) h
  · replace h := h.2 c
    refine Z_aload_n 0 dX12_isAnswered_98 rfl rfl ?_
    refine Z_aload_n 0 dX12_isAnswered_99 rfl rfl ?_
    refine Z_iconst dX12_isAnswered_100 ?_
    refine Z_iload_n 1 dX12_isAnswered_101 rfl rfl ?_
    refine Z_iadd dX12_isAnswered_102 ?_
    refine Z_invV (T := TX12) (N := 30) (ci := 12) (M' := mX12_top) (ρ' := rX12_top zN) (st := [(2, 211)]) [(0, (3 + x1))] dX12_isAnswered_103 rfl rfl la_211 (z_leN la_211 (by decide)) (by decide) rfl rfl (kX12_top.cl (Nat.le_of_ble_eq_true rfl) (Nat.le_refl _) (Nat.le_refl _) (Nat.le_of_ble_eq_true rfl) (Nat.le_of_ble_eq_true rfl) (Nat.le_of_ble_eq_true rfl)) (mlX12_239 rfl) iX12_top sX12_top h (z_ki (fun r2 σ3 h => ?_))
    refine Z_lconst (x := 0) dX12_isAnswered_106 rfl ?_
    refine Z_invV (T := TX12) (N := 30) (ci := 12) (M' := mX12_set) (ρ' := rX12_set zN) (st := []) [(0, r2), (1, 0)] dX12_isAnswered_107 rfl rfl la_211 (z_leN la_211 (by decide)) (by decide) rfl rfl (kX12_set.cl (Nat.le_of_ble_eq_true rfl) (Nat.le_refl _) (Nat.le_refl _) (Nat.le_of_ble_eq_true rfl) (Nat.le_of_ble_eq_true rfl) (Nat.le_of_ble_eq_true rfl)) (mlX12_73 rfl) iX12_set sX12_set h (z_kv (fun σ5 h => ?_))
    refine Z_aload_n 0 dX12_isAnswered_110 rfl rfl ?_
    refine Z_aload_n 0 dX12_isAnswered_111 rfl rfl ?_
    refine Z_iconst dX12_isAnswered_112 ?_
    refine Z_iload_n 1 dX12_isAnswered_113 rfl rfl ?_
    refine Z_iadd dX12_isAnswered_114 ?_
    refine Z_invV (T := TX12) (N := 30) (ci := 12) (M' := mX12_bottom) (ρ' := rX12_bottom zN) (st := [(2, 211)]) [(0, (3 + x1))] dX12_isAnswered_115 rfl rfl la_211 (z_leN la_211 (by decide)) (by decide) rfl rfl (kX12_bottom.cl (Nat.le_of_ble_eq_true rfl) (Nat.le_refl _) (Nat.le_refl _) (Nat.le_of_ble_eq_true rfl) (Nat.le_of_ble_eq_true rfl) (Nat.le_of_ble_eq_true rfl)) (mlX12_245 rfl) iX12_bottom sX12_bottom h (z_ki (fun r6 σ7 h => ?_))
    refine Z_lconst (x := 1) dX12_isAnswered_118 rfl ?_
    refine Z_invV (T := TX12) (N := 30) (ci := 12) (M' := mX12_set) (ρ' := rX12_set zN) (st := []) [(0, r6), (1, 1)] dX12_isAnswered_119 rfl rfl la_211 (z_leN la_211 (by decide)) (by decide) rfl rfl (kX12_set.cl (Nat.le_of_ble_eq_true rfl) (Nat.le_refl _) (Nat.le_refl _) (Nat.le_of_ble_eq_true rfl) (Nat.le_of_ble_eq_true rfl) (Nat.le_of_ble_eq_true rfl)) (mlX12_73 rfl) iX12_set sX12_set h (z_kv (fun σ9 h => ?_))
    refine Z_iinc (L' := [(2, 211), (0, (x1 + 1)), (9, 0), (9, 0), (9, 0)]) dX12_isAnswered_122 rfl (Nat.le_of_ble_eq_true rfl) rfl ?_
    refine Z_goto (tgt := 92) dX12_isAnswered_125 (by decide) ?_
    exact Z_few (z_few_k (z_few_k (z_few_k (z_few_k (z_few_k z_few_0))))) h
theorem bk_X12_isAnswered_130 {X : ZS} {σ : ZM} {T : Bool → ZM → Prop} {x1 : Int} (h : (r32 x1) ∧ (r32 (σ 211 26)) ∧ (((σ 211 26) ≤ x1) → ZC X (rX12_set zN) mX12_set [(2, 211), (0, 9), (1, 0)] zN σ (zQv (fun σ4 => Z X (rX12_isAnswered zN) mX12_isAnswered 192 [(2, 211), (0, 0), (9, 0), (9, 0), (9, 0)] [] zN σ4 (zQz T)))) ∧ ((¬ ((σ 211 26) ≤ x1)) → (Fix σ) ∧ (0 ≤ x1) ∧ (x1 < 8) ∧ ZC X (rX12_top zN) mX12_top [(2, 211), (0, (3 + (σ 228 x1)))] zN σ (zQi (fun r8 σ9 => ZC X (rX12_told zN) mX12_told [(2, 211), (0, x1)] zN σ9 (zQi (fun r10 σ11 => ZC X (rX12_copy zN) mX12_copy [(2, 211), (0, r8), (0, r10)] zN σ11 (zQv (fun σ13 => (Fix σ13) ∧ ZC X (rX12_bottom zN) mX12_bottom [(2, 211), (0, (3 + (σ13 228 x1)))] zN σ13 (zQi (fun r15 σ16 => ZC X (rX12_copy zN) mX12_copy [(2, 211), (0, r15), (0, 7)] zN σ16 (zQv (fun σ18 => Z X (rX12_isAnswered zN) mX12_isAnswered 130 [(2, 211), (0, (x1 + 1)), (9, 0), (9, 0), (9, 0)] [] zN σ18 (zQz T))))))))))))) : Z X (rX12_isAnswered zN) mX12_isAnswered 130 [(2, 211), (0, x1), (9, 0), (9, 0), (9, 0)] [] zN σ (zQz T) := by
  refine Z_iload_n 1 dX12_isAnswered_130 rfl rfl ?_
  refine Z_aload_n 0 dX12_isAnswered_131 rfl rfl ?_
  refine Z_get (T := TX12) (N := 30) (ci := 12) (t := 0) 26 dX12_isAnswered_132 la_211 (z_leN la_211 (by decide)) rfl (by decide) inX12 (by decide) (flX12_214 rfl) rfl ?_
  obtain ⟨g1, h⟩ := h
  obtain ⟨g2, h⟩ := h
  refine Z_icmp_ge (tgt := 183) dX12_isAnswered_135 (by decide) g1 g2 (fun c => ?_) (fun c => ?_)
  · replace h := h.1 c
    refine Z_aload_n 0 dX12_isAnswered_183 rfl rfl ?_
    refine Z_bipush dX12_isAnswered_184 (by decide) ?_
    refine Z_lconst (x := 0) dX12_isAnswered_186 rfl ?_
    refine Z_invV (T := TX12) (N := 30) (ci := 12) (M' := mX12_set) (ρ' := rX12_set zN) (st := []) [(0, 9), (1, 0)] dX12_isAnswered_187 rfl rfl la_211 (z_leN la_211 (by decide)) (by decide) rfl rfl (kX12_set.cl (Nat.le_of_ble_eq_true rfl) (Nat.le_refl _) (Nat.le_refl _) (Nat.le_of_ble_eq_true rfl) (Nat.le_of_ble_eq_true rfl) (Nat.le_of_ble_eq_true rfl)) (mlX12_73 rfl) iX12_set sX12_set h (z_kv (fun σ4 h => ?_))
    refine Z_iconst dX12_isAnswered_190 ?_
    refine Z_istore_n (L' := [(2, 211), (0, 0), (9, 0), (9, 0), (9, 0)]) 1 dX12_isAnswered_191 rfl (Nat.le_of_ble_eq_true rfl) rfl ?_
    exact Z_few (z_few_k (z_few_k (z_few_k (z_few_k (z_few_k z_few_0))))) h
  · replace h := h.2 c
    refine Z_aload_n 0 dX12_isAnswered_138 rfl rfl ?_
    refine Z_aload_n 0 dX12_isAnswered_139 rfl rfl ?_
    refine Z_iconst dX12_isAnswered_140 ?_
    refine Z_aload_n 0 dX12_isAnswered_141 rfl rfl ?_
    obtain ⟨g5, h⟩ := h
    refine Z_get (T := TX12) (N := 30) (ci := 12) (t := 2) 27 dX12_isAnswered_142 la_211 (z_leN la_211 (by decide)) rfl (by decide) inX12 (by decide) (flX12_66 rfl) rfl ?_
    refine Z_top (y := 228) ((Fix.get g5 la_211 27 17 (by decide +kernel)).trans (by clear h; omega)) ?_
    refine Z_iload_n 1 dX12_isAnswered_145 rfl rfl ?_
    obtain ⟨g6, h⟩ := h
    obtain ⟨g7, h⟩ := h
    refine Z_iald dX12_isAnswered_146 la_228 (z_leN la_228 (by decide)) g6 g7 ?_
    refine Z_iadd dX12_isAnswered_147 ?_
    refine Z_invV (T := TX12) (N := 30) (ci := 12) (M' := mX12_top) (ρ' := rX12_top zN) (st := [(2, 211)]) [(0, (3 + (σ 228 x1)))] dX12_isAnswered_148 rfl rfl la_211 (z_leN la_211 (by decide)) (by decide) rfl rfl (kX12_top.cl (Nat.le_of_ble_eq_true rfl) (Nat.le_refl _) (Nat.le_refl _) (Nat.le_of_ble_eq_true rfl) (Nat.le_of_ble_eq_true rfl) (Nat.le_of_ble_eq_true rfl)) (mlX12_239 rfl) iX12_top sX12_top h (z_ki (fun r8 σ9 h => ?_))
    refine Z_aload_n 0 dX12_isAnswered_151 rfl rfl ?_
    refine Z_iload_n 1 dX12_isAnswered_152 rfl rfl ?_
    refine Z_invV (T := TX12) (N := 30) (ci := 12) (M' := mX12_told) (ρ' := rX12_told zN) (st := [(0, r8), (2, 211)]) [(0, x1)] dX12_isAnswered_153 rfl rfl la_211 (z_leN la_211 (by decide)) (by decide) rfl rfl (kX12_told.cl (Nat.le_of_ble_eq_true rfl) (Nat.le_refl _) (Nat.le_refl _) (Nat.le_of_ble_eq_true rfl) (Nat.le_of_ble_eq_true rfl) (Nat.le_of_ble_eq_true rfl)) (mlX12_230 rfl) iX12_told sX12_told h (z_ki (fun r10 σ11 h => ?_))
    refine Z_invV (T := TX12) (N := 30) (ci := 12) (M' := mX12_copy) (ρ' := rX12_copy zN) (st := []) [(0, r8), (0, r10)] dX12_isAnswered_156 rfl rfl la_211 (z_leN la_211 (by decide)) (by decide) rfl rfl (kX12_copy.cl (Nat.le_of_ble_eq_true rfl) (Nat.le_refl _) (Nat.le_refl _) (Nat.le_of_ble_eq_true rfl) (Nat.le_of_ble_eq_true rfl) (Nat.le_of_ble_eq_true rfl)) (mlX12_118 rfl) iX12_copy sX12_copy h (z_kv (fun σ13 h => ?_))
    refine Z_aload_n 0 dX12_isAnswered_159 rfl rfl ?_
    refine Z_aload_n 0 dX12_isAnswered_160 rfl rfl ?_
    refine Z_iconst dX12_isAnswered_161 ?_
    refine Z_aload_n 0 dX12_isAnswered_162 rfl rfl ?_
    obtain ⟨g14, h⟩ := h
    refine Z_get (T := TX12) (N := 30) (ci := 12) (t := 2) 27 dX12_isAnswered_163 la_211 (z_leN la_211 (by decide)) rfl (by decide) inX12 (by decide) (flX12_66 rfl) rfl ?_
    refine Z_top (y := 228) ((Fix.get g14 la_211 27 17 (by decide +kernel)).trans (by clear h; omega)) ?_
    refine Z_iload_n 1 dX12_isAnswered_166 rfl rfl ?_
    refine Z_iald dX12_isAnswered_167 la_228 (z_leN la_228 (by decide)) g6 g7 ?_
    refine Z_iadd dX12_isAnswered_168 ?_
    refine Z_invV (T := TX12) (N := 30) (ci := 12) (M' := mX12_bottom) (ρ' := rX12_bottom zN) (st := [(2, 211)]) [(0, (3 + (σ13 228 x1)))] dX12_isAnswered_169 rfl rfl la_211 (z_leN la_211 (by decide)) (by decide) rfl rfl (kX12_bottom.cl (Nat.le_of_ble_eq_true rfl) (Nat.le_refl _) (Nat.le_refl _) (Nat.le_of_ble_eq_true rfl) (Nat.le_of_ble_eq_true rfl) (Nat.le_of_ble_eq_true rfl)) (mlX12_245 rfl) iX12_bottom sX12_bottom h (z_ki (fun r15 σ16 h => ?_))
    refine Z_bipush dX12_isAnswered_172 (by decide) ?_
    refine Z_invV (T := TX12) (N := 30) (ci := 12) (M' := mX12_copy) (ρ' := rX12_copy zN) (st := []) [(0, r15), (0, 7)] dX12_isAnswered_174 rfl rfl la_211 (z_leN la_211 (by decide)) (by decide) rfl rfl (kX12_copy.cl (Nat.le_of_ble_eq_true rfl) (Nat.le_refl _) (Nat.le_refl _) (Nat.le_of_ble_eq_true rfl) (Nat.le_of_ble_eq_true rfl) (Nat.le_of_ble_eq_true rfl)) (mlX12_118 rfl) iX12_copy sX12_copy h (z_kv (fun σ18 h => ?_))
    refine Z_iinc (L' := [(2, 211), (0, (x1 + 1)), (9, 0), (9, 0), (9, 0)]) dX12_isAnswered_177 rfl (Nat.le_of_ble_eq_true rfl) rfl ?_
    refine Z_goto (tgt := 130) dX12_isAnswered_180 (by decide) ?_
    exact Z_few (z_few_k (z_few_k (z_few_k (z_few_k (z_few_k z_few_0))))) h
theorem bk_X12_isAnswered_192 {X : ZS} {σ : ZM} {T : Bool → ZM → Prop} {x1 : Int} (h : (r32 x1) ∧ (r32 (σ 211 26)) ∧ (((σ 211 26) ≤ x1) → ZC X (rX12_told zN) mX12_told [(2, 211), (0, (σ 211 26))] zN σ (zQi (fun r3 σ4 => (r32 (σ4 211 23)) ∧ ZC X (rX12_more zN) mX12_more [(2, 211), (0, 9), (0, r3), (1, (σ4 211 23))] zN σ4 (zQv (fun σ7 => Z X (rX12_isAnswered zN) mX12_isAnswered 255 [(2, 211), (1, 0), (9, 0), (0, 0), (9, 0)] [] zN σ7 (zQz T)))))) ∧ ((¬ ((σ 211 26) ≤ x1)) → ZC X (rX12_told zN) mX12_told [(2, 211), (0, x1)] zN σ (zQi (fun r8 σ9 => (Fix σ9) ∧ (0 ≤ x1) ∧ (x1 < 8) ∧ ZC X (rX12_toPlaces zN) mX12_toPlaces [(2, 211), (0, (σ9 211 11)), (0, (σ9 228 x1))] zN σ9 (zQi (fun r13 σ14 => (r32 r13) ∧ ZC X (rX12_more zN) mX12_more [(2, 211), (0, 9), (0, r8), (1, r13)] zN σ14 (zQv (fun σ17 => Z X (rX12_isAnswered zN) mX12_isAnswered 192 [(2, 211), (0, (x1 + 1)), (9, 0), (9, 0), (9, 0)] [] zN σ17 (zQz T))))))))) : Z X (rX12_isAnswered zN) mX12_isAnswered 192 [(2, 211), (0, x1), (9, 0), (9, 0), (9, 0)] [] zN σ (zQz T) := by
  refine Z_iload_n 1 dX12_isAnswered_192 rfl rfl ?_
  refine Z_aload_n 0 dX12_isAnswered_193 rfl rfl ?_
  refine Z_get (T := TX12) (N := 30) (ci := 12) (t := 0) 26 dX12_isAnswered_194 la_211 (z_leN la_211 (by decide)) rfl (by decide) inX12 (by decide) (flX12_214 rfl) rfl ?_
  obtain ⟨g1, h⟩ := h
  obtain ⟨g2, h⟩ := h
  refine Z_icmp_ge (tgt := 232) dX12_isAnswered_197 (by decide) g1 g2 (fun c => ?_) (fun c => ?_)
  · replace h := h.1 c
    refine Z_aload_n 0 dX12_isAnswered_232 rfl rfl ?_
    refine Z_bipush dX12_isAnswered_233 (by decide) ?_
    refine Z_aload_n 0 dX12_isAnswered_235 rfl rfl ?_
    refine Z_aload_n 0 dX12_isAnswered_236 rfl rfl ?_
    refine Z_get (T := TX12) (N := 30) (ci := 12) (t := 0) 26 dX12_isAnswered_237 la_211 (z_leN la_211 (by decide)) rfl (by decide) inX12 (by decide) (flX12_214 rfl) rfl ?_
    refine Z_invV (T := TX12) (N := 30) (ci := 12) (M' := mX12_told) (ρ' := rX12_told zN) (st := [(0, 9), (2, 211)]) [(0, (σ 211 26))] dX12_isAnswered_240 rfl rfl la_211 (z_leN la_211 (by decide)) (by decide) rfl rfl (kX12_told.cl (Nat.le_of_ble_eq_true rfl) (Nat.le_refl _) (Nat.le_refl _) (Nat.le_of_ble_eq_true rfl) (Nat.le_of_ble_eq_true rfl) (Nat.le_of_ble_eq_true rfl)) (mlX12_230 rfl) iX12_told sX12_told h (z_ki (fun r3 σ4 h => ?_))
    refine Z_aload_n 0 dX12_isAnswered_243 rfl rfl ?_
    refine Z_get (T := TX12) (N := 30) (ci := 12) (t := 0) 23 dX12_isAnswered_244 la_211 (z_leN la_211 (by decide)) rfl (by decide) inX12 (by decide) (flX12_211 rfl) rfl ?_
    obtain ⟨g5, h⟩ := h
    refine Z_i2l dX12_isAnswered_247 g5 ?_
    refine Z_invV (T := TX12) (N := 30) (ci := 12) (M' := mX12_more) (ρ' := rX12_more zN) (st := []) [(0, 9), (0, r3), (1, (σ4 211 23))] dX12_isAnswered_248 rfl rfl la_211 (z_leN la_211 (by decide)) (by decide) rfl rfl (kX12_more.cl (Nat.le_of_ble_eq_true rfl) (Nat.le_refl _) (Nat.le_refl _) (Nat.le_of_ble_eq_true rfl) (Nat.le_of_ble_eq_true rfl) (Nat.le_of_ble_eq_true rfl)) (mlX12_134 rfl) iX12_more sX12_more h (z_kv (fun σ7 h => ?_))
    refine Z_lconst (x := 0) dX12_isAnswered_251 rfl ?_
    refine Z_lstore_n (L' := [(2, 211), (1, 0), (9, 0), (9, 0), (9, 0)]) 1 dX12_isAnswered_252 rfl (Nat.le_of_ble_eq_true rfl) rfl ?_
    refine Z_iconst dX12_isAnswered_253 ?_
    refine Z_istore_n (L' := [(2, 211), (1, 0), (9, 0), (0, 0), (9, 0)]) 3 dX12_isAnswered_254 rfl (Nat.le_of_ble_eq_true rfl) rfl ?_
    exact Z_few (z_few_k (z_few_k (z_few_k (z_few_k (z_few_k z_few_0))))) h
  · replace h := h.2 c
    refine Z_aload_n 0 dX12_isAnswered_200 rfl rfl ?_
    refine Z_bipush dX12_isAnswered_201 (by decide) ?_
    refine Z_aload_n 0 dX12_isAnswered_203 rfl rfl ?_
    refine Z_iload_n 1 dX12_isAnswered_204 rfl rfl ?_
    refine Z_invV (T := TX12) (N := 30) (ci := 12) (M' := mX12_told) (ρ' := rX12_told zN) (st := [(0, 9), (2, 211)]) [(0, x1)] dX12_isAnswered_205 rfl rfl la_211 (z_leN la_211 (by decide)) (by decide) rfl rfl (kX12_told.cl (Nat.le_of_ble_eq_true rfl) (Nat.le_refl _) (Nat.le_refl _) (Nat.le_of_ble_eq_true rfl) (Nat.le_of_ble_eq_true rfl) (Nat.le_of_ble_eq_true rfl)) (mlX12_230 rfl) iX12_told sX12_told h (z_ki (fun r8 σ9 h => ?_))
    refine Z_aload_n 0 dX12_isAnswered_208 rfl rfl ?_
    refine Z_aload_n 0 dX12_isAnswered_209 rfl rfl ?_
    refine Z_get (T := TX12) (N := 30) (ci := 12) (t := 0) 11 dX12_isAnswered_210 la_211 (z_leN la_211 (by decide)) rfl (by decide) inX12 (by decide) (flX12_38 rfl) rfl ?_
    refine Z_aload_n 0 dX12_isAnswered_213 rfl rfl ?_
    obtain ⟨g10, h⟩ := h
    refine Z_get (T := TX12) (N := 30) (ci := 12) (t := 2) 27 dX12_isAnswered_214 la_211 (z_leN la_211 (by decide)) rfl (by decide) inX12 (by decide) (flX12_66 rfl) rfl ?_
    refine Z_top (y := 228) ((Fix.get g10 la_211 27 17 (by decide +kernel)).trans (by clear h; omega)) ?_
    refine Z_iload_n 1 dX12_isAnswered_217 rfl rfl ?_
    obtain ⟨g11, h⟩ := h
    obtain ⟨g12, h⟩ := h
    refine Z_iald dX12_isAnswered_218 la_228 (z_leN la_228 (by decide)) g11 g12 ?_
    refine Z_invV (T := TX12) (N := 30) (ci := 12) (M' := mX12_toPlaces) (ρ' := rX12_toPlaces zN) (st := [(0, r8), (0, 9), (2, 211)]) [(0, (σ9 211 11)), (0, (σ9 228 x1))] dX12_isAnswered_219 rfl rfl la_211 (z_leN la_211 (by decide)) (by decide) rfl rfl (kX12_toPlaces.cl (Nat.le_of_ble_eq_true rfl) (Nat.le_refl _) (Nat.le_refl _) (Nat.le_of_ble_eq_true rfl) (Nat.le_of_ble_eq_true rfl) (Nat.le_of_ble_eq_true rfl)) (mlX12_224 rfl) iX12_toPlaces sX12_toPlaces h (z_ki (fun r13 σ14 h => ?_))
    obtain ⟨g15, h⟩ := h
    refine Z_i2l dX12_isAnswered_222 g15 ?_
    refine Z_invV (T := TX12) (N := 30) (ci := 12) (M' := mX12_more) (ρ' := rX12_more zN) (st := []) [(0, 9), (0, r8), (1, r13)] dX12_isAnswered_223 rfl rfl la_211 (z_leN la_211 (by decide)) (by decide) rfl rfl (kX12_more.cl (Nat.le_of_ble_eq_true rfl) (Nat.le_refl _) (Nat.le_refl _) (Nat.le_of_ble_eq_true rfl) (Nat.le_of_ble_eq_true rfl) (Nat.le_of_ble_eq_true rfl)) (mlX12_134 rfl) iX12_more sX12_more h (z_kv (fun σ17 h => ?_))
    refine Z_iinc (L' := [(2, 211), (0, (x1 + 1)), (9, 0), (9, 0), (9, 0)]) dX12_isAnswered_226 rfl (Nat.le_of_ble_eq_true rfl) rfl ?_
    refine Z_goto (tgt := 192) dX12_isAnswered_229 (by decide) ?_
    exact Z_few (z_few_k (z_few_k (z_few_k (z_few_k (z_few_k z_few_0))))) h
theorem bk_X12_isAnswered_255 {X : ZS} {σ : ZM} {T : Bool → ZM → Prop} {x1 : Int} {x3 : Int} (h : (r32 x3) ∧ (r32 (σ 211 23)) ∧ (((σ 211 23) ≤ x3) → ZC X (rX12_more zN) mX12_more [(2, 211), (0, 9), (0, 8), (1, (-x1))] zN σ (zQv (fun σ4 => ZC X (rX12_top zN) mX12_top [(2, 211), (0, 1)] zN σ4 (zQi (fun r5 σ6 => ZC X (rX12_copy zN) mX12_copy [(2, 211), (0, r5), (0, 9)] zN σ6 (zQv (fun σ8 => ZC X (rX12_set zN) mX12_set [(2, 211), (0, 9), (1, 0)] zN σ8 (zQv (fun σ10 => (r32 (σ10 211 23)) ∧ ZC X (rX12_more zN) mX12_more [(2, 211), (0, 9), (0, 8), (1, ((σ10 211 23) * (σ10 211 23)))] zN σ10 (zQv (fun σ13 => ZC X (rX12_bottom zN) mX12_bottom [(2, 211), (0, 1)] zN σ13 (zQi (fun r14 σ15 => ZC X (rX12_copy zN) mX12_copy [(2, 211), (0, r14), (0, 9)] zN σ15 (zQv (fun σ17 => T true σ17))))))))))))))) ∧ ((¬ ((σ 211 23) ≤ x3)) → Z X (rX12_isAnswered zN) mX12_isAnswered 266 [(2, 211), (1, x1), (9, 0), (0, x3), (0, 0)] [] zN σ (zQz T))) : Z X (rX12_isAnswered zN) mX12_isAnswered 255 [(2, 211), (1, x1), (9, 0), (0, x3), (9, 0)] [] zN σ (zQz T) := by
  refine Z_iload_n 3 dX12_isAnswered_255 rfl rfl ?_
  refine Z_aload_n 0 dX12_isAnswered_256 rfl rfl ?_
  refine Z_get (T := TX12) (N := 30) (ci := 12) (t := 0) 23 dX12_isAnswered_257 la_211 (z_leN la_211 (by decide)) rfl (by decide) inX12 (by decide) (flX12_211 rfl) rfl ?_
  obtain ⟨g1, h⟩ := h
  obtain ⟨g2, h⟩ := h
  refine Z_icmp_ge (tgt := 333) dX12_isAnswered_260 (by decide) g1 g2 (fun c => ?_) (fun c => ?_)
  · replace h := h.1 c
    refine Z_aload_n 0 dX12_isAnswered_333 rfl rfl ?_
    refine Z_bipush dX12_isAnswered_334 (by decide) ?_
    refine Z_bipush dX12_isAnswered_336 (by decide) ?_
    refine Z_lload_n 1 dX12_isAnswered_338 rfl rfl ?_
    refine Z_lneg dX12_isAnswered_339 ?_
    refine Z_invV (T := TX12) (N := 30) (ci := 12) (M' := mX12_more) (ρ' := rX12_more zN) (st := []) [(0, 9), (0, 8), (1, (-x1))] dX12_isAnswered_340 rfl rfl la_211 (z_leN la_211 (by decide)) (by decide) rfl rfl (kX12_more.cl (Nat.le_of_ble_eq_true rfl) (Nat.le_refl _) (Nat.le_refl _) (Nat.le_of_ble_eq_true rfl) (Nat.le_of_ble_eq_true rfl) (Nat.le_of_ble_eq_true rfl)) (mlX12_134 rfl) iX12_more sX12_more h (z_kv (fun σ4 h => ?_))
    refine Z_aload_n 0 dX12_isAnswered_343 rfl rfl ?_
    refine Z_aload_n 0 dX12_isAnswered_344 rfl rfl ?_
    refine Z_iconst dX12_isAnswered_345 ?_
    refine Z_invV (T := TX12) (N := 30) (ci := 12) (M' := mX12_top) (ρ' := rX12_top zN) (st := [(2, 211)]) [(0, 1)] dX12_isAnswered_346 rfl rfl la_211 (z_leN la_211 (by decide)) (by decide) rfl rfl (kX12_top.cl (Nat.le_of_ble_eq_true rfl) (Nat.le_refl _) (Nat.le_refl _) (Nat.le_of_ble_eq_true rfl) (Nat.le_of_ble_eq_true rfl) (Nat.le_of_ble_eq_true rfl)) (mlX12_239 rfl) iX12_top sX12_top h (z_ki (fun r5 σ6 h => ?_))
    refine Z_bipush dX12_isAnswered_349 (by decide) ?_
    refine Z_invV (T := TX12) (N := 30) (ci := 12) (M' := mX12_copy) (ρ' := rX12_copy zN) (st := []) [(0, r5), (0, 9)] dX12_isAnswered_351 rfl rfl la_211 (z_leN la_211 (by decide)) (by decide) rfl rfl (kX12_copy.cl (Nat.le_of_ble_eq_true rfl) (Nat.le_refl _) (Nat.le_refl _) (Nat.le_of_ble_eq_true rfl) (Nat.le_of_ble_eq_true rfl) (Nat.le_of_ble_eq_true rfl)) (mlX12_118 rfl) iX12_copy sX12_copy h (z_kv (fun σ8 h => ?_))
    refine Z_aload_n 0 dX12_isAnswered_354 rfl rfl ?_
    refine Z_bipush dX12_isAnswered_355 (by decide) ?_
    refine Z_lconst (x := 0) dX12_isAnswered_357 rfl ?_
    refine Z_invV (T := TX12) (N := 30) (ci := 12) (M' := mX12_set) (ρ' := rX12_set zN) (st := []) [(0, 9), (1, 0)] dX12_isAnswered_358 rfl rfl la_211 (z_leN la_211 (by decide)) (by decide) rfl rfl (kX12_set.cl (Nat.le_of_ble_eq_true rfl) (Nat.le_refl _) (Nat.le_refl _) (Nat.le_of_ble_eq_true rfl) (Nat.le_of_ble_eq_true rfl) (Nat.le_of_ble_eq_true rfl)) (mlX12_73 rfl) iX12_set sX12_set h (z_kv (fun σ10 h => ?_))
    refine Z_aload_n 0 dX12_isAnswered_361 rfl rfl ?_
    refine Z_bipush dX12_isAnswered_362 (by decide) ?_
    refine Z_bipush dX12_isAnswered_364 (by decide) ?_
    refine Z_aload_n 0 dX12_isAnswered_366 rfl rfl ?_
    refine Z_get (T := TX12) (N := 30) (ci := 12) (t := 0) 23 dX12_isAnswered_367 la_211 (z_leN la_211 (by decide)) rfl (by decide) inX12 (by decide) (flX12_211 rfl) rfl ?_
    obtain ⟨g11, h⟩ := h
    refine Z_i2l dX12_isAnswered_370 g11 ?_
    refine Z_aload_n 0 dX12_isAnswered_371 rfl rfl ?_
    refine Z_get (T := TX12) (N := 30) (ci := 12) (t := 0) 23 dX12_isAnswered_372 la_211 (z_leN la_211 (by decide)) rfl (by decide) inX12 (by decide) (flX12_211 rfl) rfl ?_
    refine Z_i2l dX12_isAnswered_375 g11 ?_
    refine Z_lmul dX12_isAnswered_376 ?_
    refine Z_invV (T := TX12) (N := 30) (ci := 12) (M' := mX12_more) (ρ' := rX12_more zN) (st := []) [(0, 9), (0, 8), (1, ((σ10 211 23) * (σ10 211 23)))] dX12_isAnswered_377 rfl rfl la_211 (z_leN la_211 (by decide)) (by decide) rfl rfl (kX12_more.cl (Nat.le_of_ble_eq_true rfl) (Nat.le_refl _) (Nat.le_refl _) (Nat.le_of_ble_eq_true rfl) (Nat.le_of_ble_eq_true rfl) (Nat.le_of_ble_eq_true rfl)) (mlX12_134 rfl) iX12_more sX12_more h (z_kv (fun σ13 h => ?_))
    refine Z_aload_n 0 dX12_isAnswered_380 rfl rfl ?_
    refine Z_aload_n 0 dX12_isAnswered_381 rfl rfl ?_
    refine Z_iconst dX12_isAnswered_382 ?_
    refine Z_invV (T := TX12) (N := 30) (ci := 12) (M' := mX12_bottom) (ρ' := rX12_bottom zN) (st := [(2, 211)]) [(0, 1)] dX12_isAnswered_383 rfl rfl la_211 (z_leN la_211 (by decide)) (by decide) rfl rfl (kX12_bottom.cl (Nat.le_of_ble_eq_true rfl) (Nat.le_refl _) (Nat.le_refl _) (Nat.le_of_ble_eq_true rfl) (Nat.le_of_ble_eq_true rfl) (Nat.le_of_ble_eq_true rfl)) (mlX12_245 rfl) iX12_bottom sX12_bottom h (z_ki (fun r14 σ15 h => ?_))
    refine Z_bipush dX12_isAnswered_386 (by decide) ?_
    refine Z_invV (T := TX12) (N := 30) (ci := 12) (M' := mX12_copy) (ρ' := rX12_copy zN) (st := []) [(0, r14), (0, 9)] dX12_isAnswered_388 rfl rfl la_211 (z_leN la_211 (by decide)) (by decide) rfl rfl (kX12_copy.cl (Nat.le_of_ble_eq_true rfl) (Nat.le_refl _) (Nat.le_refl _) (Nat.le_of_ble_eq_true rfl) (Nat.le_of_ble_eq_true rfl) (Nat.le_of_ble_eq_true rfl)) (mlX12_118 rfl) iX12_copy sX12_copy h (z_kv (fun σ17 h => ?_))
    refine Z_iconst dX12_isAnswered_391 ?_
    exact Z_zreturn dX12_isAnswered_392 rfl (Or.inr rfl) rfl ⟨rfl, true, rfl, h⟩
  · replace h := h.2 c
    refine Z_iconst dX12_isAnswered_263 ?_
    refine Z_istore (L' := [(2, 211), (1, x1), (9, 0), (0, x3), (0, 0)]) dX12_isAnswered_264 (Nat.le_of_ble_eq_true rfl) rfl ?_
    exact Z_few (z_few_k (z_few_k (z_few_k (z_few_k (z_few_k z_few_0))))) h
theorem bk_X12_isAnswered_266 {X : ZS} {σ : ZM} {T : Bool → ZM → Prop} {x1 : Int} {x3 : Int} {x4 : Int} (h : (r32 x4) ∧ (r32 (σ 211 23)) ∧ (((σ 211 23) ≤ x4) → Z X (rX12_isAnswered zN) mX12_isAnswered 255 [(2, 211), (1, x1), (9, 0), (0, (x3 + 1)), (9, 0)] [] zN σ (zQz T)) ∧ ((¬ ((σ 211 23) ≤ x4)) → (Fix σ) ∧ (0 ≤ x3) ∧ (x3 < 6) ∧ (0 ≤ x4) ∧ (x4 < 6) ∧ ZC X (rX12_way zN) mX12_way [(0, (σ 226 x3)), (0, (σ 227 x3)), (0, (σ 226 x4)), (0, (σ 227 x4))] zN σ (zQi (fun r8 σ9 => (0 ≤ ((81 * (σ 211 11)) + r8)) ∧ (((81 * (σ 211 11)) + r8) < 486) ∧ (r32 (σ9 220 ((81 * (σ 211 11)) + r8))) ∧ Z X (rX12_isAnswered zN) mX12_isAnswered 266 [(2, 211), (1, (x1 + (σ9 220 ((81 * (σ 211 11)) + r8)))), (9, 0), (0, x3), (0, (x4 + 1))] [] zN σ9 (zQz T))))) : Z X (rX12_isAnswered zN) mX12_isAnswered 266 [(2, 211), (1, x1), (9, 0), (0, x3), (0, x4)] [] zN σ (zQz T) := by
  refine Z_iload dX12_isAnswered_266 rfl ?_
  refine Z_aload_n 0 dX12_isAnswered_268 rfl rfl ?_
  refine Z_get (T := TX12) (N := 30) (ci := 12) (t := 0) 23 dX12_isAnswered_269 la_211 (z_leN la_211 (by decide)) rfl (by decide) inX12 (by decide) (flX12_211 rfl) rfl ?_
  obtain ⟨g1, h⟩ := h
  obtain ⟨g2, h⟩ := h
  refine Z_icmp_ge (tgt := 327) dX12_isAnswered_272 (by decide) g1 g2 (fun c => ?_) (fun c => ?_)
  · replace h := h.1 c
    refine Z_iinc (L' := [(2, 211), (1, x1), (9, 0), (0, (x3 + 1)), (0, x4)]) dX12_isAnswered_327 rfl (Nat.le_of_ble_eq_true rfl) rfl ?_
    refine Z_goto (tgt := 255) dX12_isAnswered_330 (by decide) ?_
    exact Z_few (z_few_k (z_few_k (z_few_k (z_few_k (z_few_d z_few_0))))) h
  · replace h := h.2 c
    refine Z_lload_n 1 dX12_isAnswered_275 rfl rfl ?_
    refine Z_aload_n 0 dX12_isAnswered_276 rfl rfl ?_
    obtain ⟨g3, h⟩ := h
    refine Z_get (T := TX12) (N := 30) (ci := 12) (t := 2) 10 dX12_isAnswered_277 la_211 (z_leN la_211 (by decide)) rfl (by decide) inX12 (by decide) (flX12_35 rfl) rfl ?_
    refine Z_top (y := 220) ((Fix.get g3 la_211 10 9 (by decide +kernel)).trans (by clear h; omega)) ?_
    refine Z_bipush dX12_isAnswered_280 (by decide) ?_
    refine Z_aload_n 0 dX12_isAnswered_282 rfl rfl ?_
    refine Z_get (T := TX12) (N := 30) (ci := 12) (t := 0) 11 dX12_isAnswered_283 la_211 (z_leN la_211 (by decide)) rfl (by decide) inX12 (by decide) (flX12_38 rfl) rfl ?_
    refine Z_imul dX12_isAnswered_286 ?_
    refine Z_aload_n 0 dX12_isAnswered_287 rfl rfl ?_
    refine Z_get (T := TX12) (N := 30) (ci := 12) (t := 2) 24 dX12_isAnswered_288 la_211 (z_leN la_211 (by decide)) rfl (by decide) inX12 (by decide) (flX12_60 rfl) rfl ?_
    refine Z_top (y := 226) ((Fix.get g3 la_211 24 15 (by decide +kernel)).trans (by clear h; omega)) ?_
    refine Z_iload_n 3 dX12_isAnswered_291 rfl rfl ?_
    obtain ⟨g4, h⟩ := h
    obtain ⟨g5, h⟩ := h
    refine Z_iald dX12_isAnswered_292 la_226 (z_leN la_226 (by decide)) g4 g5 ?_
    refine Z_aload_n 0 dX12_isAnswered_293 rfl rfl ?_
    refine Z_get (T := TX12) (N := 30) (ci := 12) (t := 2) 25 dX12_isAnswered_294 la_211 (z_leN la_211 (by decide)) rfl (by decide) inX12 (by decide) (flX12_63 rfl) rfl ?_
    refine Z_top (y := 227) ((Fix.get g3 la_211 25 16 (by decide +kernel)).trans (by clear h; omega)) ?_
    refine Z_iload_n 3 dX12_isAnswered_297 rfl rfl ?_
    refine Z_iald dX12_isAnswered_298 la_227 (z_leN la_227 (by decide)) g4 g5 ?_
    refine Z_aload_n 0 dX12_isAnswered_299 rfl rfl ?_
    refine Z_get (T := TX12) (N := 30) (ci := 12) (t := 2) 24 dX12_isAnswered_300 la_211 (z_leN la_211 (by decide)) rfl (by decide) inX12 (by decide) (flX12_60 rfl) rfl ?_
    refine Z_top (y := 226) ((Fix.get g3 la_211 24 15 (by decide +kernel)).trans (by clear h; omega)) ?_
    refine Z_iload dX12_isAnswered_303 rfl ?_
    obtain ⟨g6, h⟩ := h
    obtain ⟨g7, h⟩ := h
    refine Z_iald dX12_isAnswered_305 la_226 (z_leN la_226 (by decide)) g6 g7 ?_
    refine Z_aload_n 0 dX12_isAnswered_306 rfl rfl ?_
    refine Z_get (T := TX12) (N := 30) (ci := 12) (t := 2) 25 dX12_isAnswered_307 la_211 (z_leN la_211 (by decide)) rfl (by decide) inX12 (by decide) (flX12_63 rfl) rfl ?_
    refine Z_top (y := 227) ((Fix.get g3 la_211 25 16 (by decide +kernel)).trans (by clear h; omega)) ?_
    refine Z_iload dX12_isAnswered_310 rfl ?_
    refine Z_iald dX12_isAnswered_312 la_227 (z_leN la_227 (by decide)) g6 g7 ?_
    refine Z_invS (M' := mX12_way) (ρ' := rX12_way zN) (st := [(0, (81 * (σ 211 11))), (2, 220), (1, x1)]) [(0, (σ 226 x3)), (0, (σ 227 x3)), (0, (σ 226 x4)), (0, (σ 227 x4))] dX12_isAnswered_313 rfl rfl (kX12_way.cl (Nat.le_of_ble_eq_true rfl) (Nat.le_refl _) (Nat.le_refl _) (Nat.le_of_ble_eq_true rfl) (Nat.le_of_ble_eq_true rfl) (Nat.le_of_ble_eq_true rfl)) (mlX12_207 rfl) sX12_way h (z_ki (fun r8 σ9 h => ?_))
    refine Z_iadd dX12_isAnswered_316 ?_
    obtain ⟨g10, h⟩ := h
    obtain ⟨g11, h⟩ := h
    refine Z_iald dX12_isAnswered_317 la_220 (z_leN la_220 (by decide)) g10 g11 ?_
    obtain ⟨g12, h⟩ := h
    refine Z_i2l dX12_isAnswered_318 g12 ?_
    refine Z_ladd dX12_isAnswered_319 ?_
    refine Z_lstore_n (L' := [(2, 211), (1, (x1 + (σ9 220 ((81 * (σ 211 11)) + r8)))), (9, 0), (0, x3), (0, x4)]) 1 dX12_isAnswered_320 rfl (Nat.le_of_ble_eq_true rfl) rfl ?_
    refine Z_iinc (L' := [(2, 211), (1, (x1 + (σ9 220 ((81 * (σ 211 11)) + r8)))), (9, 0), (0, x3), (0, (x4 + 1))]) dX12_isAnswered_321 rfl (Nat.le_of_ble_eq_true rfl) rfl ?_
    refine Z_goto (tgt := 266) dX12_isAnswered_324 (by decide) ?_
    exact Z_few (z_few_k (z_few_k (z_few_k (z_few_k (z_few_k z_few_0))))) h
theorem bk_X12_ask {X : ZS} {σ : ZM} {T : Int → ZM → Prop} {x1 : Int} {x2 : Int} (h : (r32 x1) ∧ ZC X (rX12_isIn zN) mX12_isIn [(1, x1), (1, (-20)), (1, 20)] zN σ (zQz (fun r2 σ3 => ((r2 = false) → T (-4) σ3) ∧ ((r2 = true) → (r32 x2) ∧ ZC X (rX12_isIn zN) mX12_isIn [(1, x2), (1, (-20)), (1, 20)] zN σ3 (zQz (fun r5 σ6 => ((r5 = true) → (r32 (σ6 211 11)) ∧ (((σ6 211 11) = (-1)) → T (-5) σ6) ∧ ((¬ (σ6 211 11) = (-1)) → (r32 (σ6 211 4)) ∧ ((¬ (σ6 211 4) = 0) → (Fix σ6) ∧ ZC X (rX12_isAnswered zN) mX12_isAnswered [(2, 211)] zN (z_up (z_up (z_up σ6 211 23 1) 226 0 x1) 227 0 x2) (zQz (fun r10 σ11 => ((r10 = false) → T (-7) σ11) ∧ ((r10 = true) → T 0 σ11)))) ∧ (((σ6 211 4) = 0) → T (-5) σ6))) ∧ ((r5 = false) → T (-4) σ6))))))) : ZC X (rX12_ask zN) mX12_ask [(2, 211), (0, x1), (0, x2)] zN σ (zQi T) := by
  show Z X _ _ 0 [(2, 211), (0, x1), (0, x2)] [] _ σ _
  refine Z_iload_n 1 dX12_ask_0 rfl rfl ?_
  obtain ⟨g1, h⟩ := h
  refine Z_i2l dX12_ask_1 g1 ?_
  refine Z_ldc2 (x := (-20)) dX12_ask_2 ctX12_176 rfl ?_
  refine Z_ldc2 (x := 20) dX12_ask_5 ctX12_178 rfl ?_
  refine Z_invS (M' := mX12_isIn) (ρ' := rX12_isIn zN) (st := []) [(1, x1), (1, (-20)), (1, 20)] dX12_ask_8 rfl rfl (kX12_isIn.cl (Nat.le_of_ble_eq_true rfl) (Nat.le_refl _) (Nat.le_refl _) (Nat.le_of_ble_eq_true rfl) (Nat.le_of_ble_eq_true rfl) (Nat.le_of_ble_eq_true rfl)) (mlX12_172 rfl) sX12_isIn h (z_kz (fun r2 σ3 h => ?_))
  refine Z_zif_eq (tgt := 28) dX12_ask_11 (by decide) (fun c => ?_) (fun c => ?_)
  · replace h := h.1 c
    refine Z_bipush dX12_ask_28 (by decide) ?_
    exact Z_ireturn dX12_ask_30 rfl rfl ⟨rfl, h⟩
  · replace h := h.2 c
    refine Z_iload_n 2 dX12_ask_14 rfl rfl ?_
    obtain ⟨g4, h⟩ := h
    refine Z_i2l dX12_ask_15 g4 ?_
    refine Z_ldc2 (x := (-20)) dX12_ask_16 ctX12_176 rfl ?_
    refine Z_ldc2 (x := 20) dX12_ask_19 ctX12_178 rfl ?_
    refine Z_invS (M' := mX12_isIn) (ρ' := rX12_isIn zN) (st := []) [(1, x2), (1, (-20)), (1, 20)] dX12_ask_22 rfl rfl (kX12_isIn.cl (Nat.le_of_ble_eq_true rfl) (Nat.le_refl _) (Nat.le_refl _) (Nat.le_of_ble_eq_true rfl) (Nat.le_of_ble_eq_true rfl) (Nat.le_of_ble_eq_true rfl)) (mlX12_172 rfl) sX12_isIn h (z_kz (fun r5 σ6 h => ?_))
    refine Z_zif_ne (tgt := 31) dX12_ask_25 (by decide) (fun c => ?_) (fun c => ?_)
    · replace h := h.1 c
      refine Z_aload_n 0 dX12_ask_31 rfl rfl ?_
      refine Z_get (T := TX12) (N := 30) (ci := 12) (t := 0) 11 dX12_ask_32 la_211 (z_leN la_211 (by decide)) rfl (by decide) inX12 (by decide) (flX12_38 rfl) rfl ?_
      refine Z_iconst dX12_ask_35 ?_
      obtain ⟨g7, h⟩ := h
      refine Z_icmp_eq (tgt := 46) dX12_ask_36 (by decide) g7 ⟨by decide, by decide⟩ (fun c => ?_) (fun c => ?_)
      · replace h := h.1 c
        refine Z_bipush dX12_ask_46 (by decide) ?_
        exact Z_ireturn dX12_ask_48 rfl rfl ⟨rfl, h⟩
      · replace h := h.2 c
        refine Z_aload_n 0 dX12_ask_39 rfl rfl ?_
        refine Z_get (T := TX12) (N := 30) (ci := 12) (t := 0) 4 dX12_ask_40 la_211 (z_leN la_211 (by decide)) rfl (by decide) inX12 (by decide) (flX12_167 rfl) rfl ?_
        obtain ⟨g8, h⟩ := h
        refine Z_if_ne (tgt := 49) dX12_ask_43 (by decide) g8 (fun c => ?_) (fun c => ?_)
        · replace h := h.1 c
          refine Z_aload_n 0 dX12_ask_49 rfl rfl ?_
          refine Z_iconst dX12_ask_50 ?_
          refine Z_put (T := TX12) (N := 30) (ci := 12) (t := 0) tyX12 23 dX12_ask_51 la_211 (z_leN la_211 (by decide)) rfl (by decide) inX12 (by decide) (plX12_211 rfl) rfl tyX12_ok nmX12 rfl (z_nf_i _) ?_
          refine Z_aload_n 0 dX12_ask_54 rfl rfl ?_
          obtain ⟨g9, h⟩ := h
          refine Z_get (T := TX12) (N := 30) (ci := 12) (t := 2) 24 dX12_ask_55 la_211 (z_leN la_211 (by decide)) rfl (by decide) inX12 (by decide) (flX12_60 rfl) rfl ?_
          refine Z_top (y := 226) ((Fix.get (Fix.upF g9 la_211 23 (by decide +kernel)) la_211 24 15 (by decide +kernel)).trans (by clear h; omega)) ?_
          refine Z_iconst dX12_ask_58 ?_
          refine Z_iload_n 1 dX12_ask_59 rfl rfl ?_
          refine Z_iast dX12_ask_60 la_226 (z_leN la_226 (by decide)) (by decide) (by decide) ?_
          refine Z_aload_n 0 dX12_ask_61 rfl rfl ?_
          refine Z_get (T := TX12) (N := 30) (ci := 12) (t := 2) 25 dX12_ask_62 la_211 (z_leN la_211 (by decide)) rfl (by decide) inX12 (by decide) (flX12_63 rfl) rfl ?_
          refine Z_top (y := 227) ((Fix.get (Fix.upA (Fix.upF g9 la_211 23 (by decide +kernel)) la_226 (by decide)) la_211 25 16 (by decide +kernel)).trans (by clear h; omega)) ?_
          refine Z_iconst dX12_ask_65 ?_
          refine Z_iload_n 2 dX12_ask_66 rfl rfl ?_
          refine Z_iast dX12_ask_67 la_227 (z_leN la_227 (by decide)) (by decide) (by decide) ?_
          refine Z_aload_n 0 dX12_ask_68 rfl rfl ?_
          refine Z_invV (T := TX12) (N := 30) (ci := 12) (M' := mX12_isAnswered) (ρ' := rX12_isAnswered zN) (st := []) [] dX12_ask_69 rfl rfl la_211 (z_leN la_211 (by decide)) (by decide) rfl rfl (kX12_isAnswered.cl (Nat.le_of_ble_eq_true rfl) (Nat.le_refl _) (Nat.le_refl _) (Nat.le_of_ble_eq_true rfl) (Nat.le_of_ble_eq_true rfl) (Nat.le_of_ble_eq_true rfl)) (mlX12_248 rfl) iX12_isAnswered sX12_isAnswered h (z_kz (fun r10 σ11 h => ?_))
          refine Z_zif_eq (tgt := 79) dX12_ask_72 (by decide) (fun c => ?_) (fun c => ?_)
          · replace h := h.1 c
            refine Z_bipush dX12_ask_79 (by decide) ?_
            exact Z_ireturn dX12_ask_81 rfl rfl ⟨rfl, h⟩
          · replace h := h.2 c
            refine Z_iconst dX12_ask_75 ?_
            refine Z_goto (tgt := 81) dX12_ask_76 (by decide) ?_
            exact Z_ireturn dX12_ask_81 rfl rfl ⟨rfl, h⟩
        · replace h := h.2 c
          refine Z_bipush dX12_ask_46 (by decide) ?_
          exact Z_ireturn dX12_ask_48 rfl rfl ⟨rfl, h⟩
    · replace h := h.2 c
      refine Z_bipush dX12_ask_28 (by decide) ?_
      exact Z_ireturn dX12_ask_30 rfl rfl ⟨rfl, h⟩
theorem bk_X12_mean {X : ZS} {σ : ZM} {T : Int → ZM → Prop} {x1 : Int} (h : ZC X (rX12_isSlot zN) mX12_isSlot [(0, x1)] zN σ (zQz (fun r1 σ2 => ((r1 = true) → (Fix σ2) ∧ (0 ≤ x1) ∧ (x1 < 8) ∧ (r32 (σ2 213 x1)) ∧ ((¬ (σ2 213 x1) = 0) → Z X (rX12_mean zN) mX12_mean 36 [(2, 211), (0, x1), (0, ((σ2 213 x1) - 1)), (0, 1), (0, 0), (9, 0), (9, 0)] [] zN σ2 (zQi T)) ∧ (((σ2 213 x1) = 0) → T (-5) σ2)) ∧ ((r1 = false) → T (-2) σ2)))) : ZC X (rX12_mean zN) mX12_mean [(2, 211), (0, x1)] zN σ (zQi T) := by
  show Z X _ _ 0 [(2, 211), (0, x1), (9, 0), (9, 0), (9, 0), (9, 0), (9, 0)] [] _ σ _
  refine Z_iload_n 1 dX12_mean_0 rfl rfl ?_
  refine Z_invS (M' := mX12_isSlot) (ρ' := rX12_isSlot zN) (st := []) [(0, x1)] dX12_mean_1 rfl rfl (kX12_isSlot.cl (Nat.le_of_ble_eq_true rfl) (Nat.le_refl _) (Nat.le_refl _) (Nat.le_of_ble_eq_true rfl) (Nat.le_of_ble_eq_true rfl) (Nat.le_of_ble_eq_true rfl)) (mlX12_141 rfl) sX12_isSlot h (z_kz (fun r1 σ2 h => ?_))
  refine Z_zif_ne (tgt := 10) dX12_mean_4 (by decide) (fun c => ?_) (fun c => ?_)
  · replace h := h.1 c
    refine Z_aload_n 0 dX12_mean_10 rfl rfl ?_
    obtain ⟨g3, h⟩ := h
    refine Z_get (T := TX12) (N := 30) (ci := 12) (t := 2) 1 dX12_mean_11 la_211 (z_leN la_211 (by decide)) rfl (by decide) inX12 (by decide) (flX12_13 rfl) rfl ?_
    refine Z_top (y := 213) ((Fix.get g3 la_211 1 2 (by decide +kernel)).trans (by clear h; omega)) ?_
    refine Z_iload_n 1 dX12_mean_14 rfl rfl ?_
    obtain ⟨g4, h⟩ := h
    obtain ⟨g5, h⟩ := h
    refine Z_iald dX12_mean_15 la_213 (z_leN la_213 (by decide)) g4 g5 ?_
    obtain ⟨g6, h⟩ := h
    refine Z_if_ne (tgt := 22) dX12_mean_16 (by decide) g6 (fun c => ?_) (fun c => ?_)
    · replace h := h.1 c
      refine Z_aload_n 0 dX12_mean_22 rfl rfl ?_
      refine Z_get (T := TX12) (N := 30) (ci := 12) (t := 2) 1 dX12_mean_23 la_211 (z_leN la_211 (by decide)) rfl (by decide) inX12 (by decide) (flX12_13 rfl) rfl ?_
      refine Z_top (y := 213) ((Fix.get g3 la_211 1 2 (by decide +kernel)).trans (by clear h; omega)) ?_
      refine Z_iload_n 1 dX12_mean_26 rfl rfl ?_
      refine Z_iald dX12_mean_27 la_213 (z_leN la_213 (by decide)) g4 g5 ?_
      refine Z_iconst dX12_mean_28 ?_
      refine Z_isub dX12_mean_29 ?_
      refine Z_istore_n (L' := [(2, 211), (0, x1), (0, ((σ2 213 x1) - 1)), (9, 0), (9, 0), (9, 0), (9, 0)]) 2 dX12_mean_30 rfl (Nat.le_of_ble_eq_true rfl) rfl ?_
      refine Z_iconst dX12_mean_31 ?_
      refine Z_istore_n (L' := [(2, 211), (0, x1), (0, ((σ2 213 x1) - 1)), (0, 1), (9, 0), (9, 0), (9, 0)]) 3 dX12_mean_32 rfl (Nat.le_of_ble_eq_true rfl) rfl ?_
      refine Z_iconst dX12_mean_33 ?_
      refine Z_istore (L' := [(2, 211), (0, x1), (0, ((σ2 213 x1) - 1)), (0, 1), (0, 0), (9, 0), (9, 0)]) dX12_mean_34 (Nat.le_of_ble_eq_true rfl) rfl ?_
      exact Z_few (z_few_k (z_few_k (z_few_k (z_few_k (z_few_k (z_few_k (z_few_k z_few_0))))))) h
    · replace h := h.2 c
      refine Z_bipush dX12_mean_19 (by decide) ?_
      exact Z_ireturn dX12_mean_21 rfl rfl ⟨rfl, h⟩
  · replace h := h.2 c
    refine Z_bipush dX12_mean_7 (by decide) ?_
    exact Z_ireturn dX12_mean_9 rfl rfl ⟨rfl, h⟩
theorem bk_X12_mean_36 {X : ZS} {σ : ZM} {T : Int → ZM → Prop} {x1 : Int} {x2 : Int} {x3 : Int} {x4 : Int} (h : (r32 x4) ∧ (r32 x3) ∧ ((x3 ≤ x4) → (r32 (σ 211 11)) ∧ (((σ 211 11) = (-1)) → T (-10) σ) ∧ ((¬ (σ 211 11) = (-1)) → (r32 (σ 211 4)) ∧ ((¬ (σ 211 4) = 0) → (Fix σ) ∧ Z X (rX12_mean zN) mX12_mean 160 [(2, 211), (9, 0), (9, 0), (9, 0), (0, 0), (9, 0), (9, 0)] [] zN (z_up σ 211 23 (σ 225 0)) (zQi T)) ∧ (((σ 211 4) = 0) → T (-10) σ))) ∧ ((¬ (x3 ≤ x4)) → (r32 x2) ∧ ((x4 < x2) → (Fix σ) ∧ (0 ≤ ((60 * x1) + x4)) ∧ (((60 * x1) + x4) < 480) ∧ ((¬ x4 = 0) → ZC X (rX12_isIn zN) mX12_isIn [(1, (σ 215 ((60 * x1) + x4))), (1, (-20)), (1, 20)] zN σ (zQz (fun r10 σ11 => ((r10 = true) → (Fix σ11) ∧ (0 ≤ x4) ∧ (x4 < 60) ∧ Z X (rX12_mean zN) mX12_mean 36 [(2, 211), (0, x1), (0, x2), (0, (1 + (2 * ((z_up σ11 225 x4 (σ 215 ((60 * x1) + x4))) 225 0)))), (0, (x4 + 1)), (9, 0), (9, 0)] [] zN (z_up σ11 225 x4 (σ 215 ((60 * x1) + x4))) (zQi T)) ∧ ((r10 = false) → T (-4) σ11)))) ∧ ((x4 = 0) → ZC X (rX12_isIn zN) mX12_isIn [(1, (σ 215 ((60 * x1) + x4))), (1, 1), (1, 6)] zN σ (zQz (fun r15 σ16 => ((r15 = true) → (Fix σ16) ∧ (0 ≤ x4) ∧ (x4 < 60) ∧ Z X (rX12_mean zN) mX12_mean 36 [(2, 211), (0, x1), (0, x2), (0, (1 + (2 * ((z_up σ16 225 x4 (σ 215 ((60 * x1) + x4))) 225 0)))), (0, (x4 + 1)), (9, 0), (9, 0)] [] zN (z_up σ16 225 x4 (σ 215 ((60 * x1) + x4))) (zQi T)) ∧ ((r15 = false) → T (-4) σ16))))) ∧ ((¬ (x4 < x2)) → T (-6) σ))) : Z X (rX12_mean zN) mX12_mean 36 [(2, 211), (0, x1), (0, x2), (0, x3), (0, x4), (9, 0), (9, 0)] [] zN σ (zQi T) := by
  refine Z_iload dX12_mean_36 rfl ?_
  refine Z_iload_n 3 dX12_mean_38 rfl rfl ?_
  obtain ⟨g1, h⟩ := h
  obtain ⟨g2, h⟩ := h
  refine Z_icmp_ge (tgt := 129) dX12_mean_39 (by decide) g1 g2 (fun c => ?_) (fun c => ?_)
  · replace h := h.1 c
    refine Z_aload_n 0 dX12_mean_129 rfl rfl ?_
    refine Z_get (T := TX12) (N := 30) (ci := 12) (t := 0) 11 dX12_mean_130 la_211 (z_leN la_211 (by decide)) rfl (by decide) inX12 (by decide) (flX12_38 rfl) rfl ?_
    refine Z_iconst dX12_mean_133 ?_
    obtain ⟨g3, h⟩ := h
    refine Z_icmp_eq (tgt := 144) dX12_mean_134 (by decide) g3 ⟨by decide, by decide⟩ (fun c => ?_) (fun c => ?_)
    · replace h := h.1 c
      refine Z_bipush dX12_mean_144 (by decide) ?_
      exact Z_ireturn dX12_mean_146 rfl rfl ⟨rfl, h⟩
    · replace h := h.2 c
      refine Z_aload_n 0 dX12_mean_137 rfl rfl ?_
      refine Z_get (T := TX12) (N := 30) (ci := 12) (t := 0) 4 dX12_mean_138 la_211 (z_leN la_211 (by decide)) rfl (by decide) inX12 (by decide) (flX12_167 rfl) rfl ?_
      obtain ⟨g4, h⟩ := h
      refine Z_if_ne (tgt := 147) dX12_mean_141 (by decide) g4 (fun c => ?_) (fun c => ?_)
      · replace h := h.1 c
        refine Z_aload_n 0 dX12_mean_147 rfl rfl ?_
        refine Z_aload_n 0 dX12_mean_148 rfl rfl ?_
        obtain ⟨g5, h⟩ := h
        refine Z_get (T := TX12) (N := 30) (ci := 12) (t := 2) 22 dX12_mean_149 la_211 (z_leN la_211 (by decide)) rfl (by decide) inX12 (by decide) (flX12_57 rfl) rfl ?_
        refine Z_top (y := 225) ((Fix.get g5 la_211 22 14 (by decide +kernel)).trans (by clear h; omega)) ?_
        refine Z_iconst dX12_mean_152 ?_
        refine Z_iald dX12_mean_153 la_225 (z_leN la_225 (by decide)) (by decide) (by decide) ?_
        refine Z_put (T := TX12) (N := 30) (ci := 12) (t := 0) tyX12 23 dX12_mean_154 la_211 (z_leN la_211 (by decide)) rfl (by decide) inX12 (by decide) (plX12_211 rfl) rfl tyX12_ok nmX12 rfl (z_nf_i _) ?_
        refine Z_iconst dX12_mean_157 ?_
        refine Z_istore (L' := [(2, 211), (0, x1), (0, x2), (0, x3), (0, 0), (9, 0), (9, 0)]) dX12_mean_158 (Nat.le_of_ble_eq_true rfl) rfl ?_
        exact Z_few (z_few_k (z_few_d (z_few_d (z_few_d (z_few_k (z_few_k (z_few_k z_few_0))))))) h
      · replace h := h.2 c
        refine Z_bipush dX12_mean_144 (by decide) ?_
        exact Z_ireturn dX12_mean_146 rfl rfl ⟨rfl, h⟩
  · replace h := h.2 c
    refine Z_iload dX12_mean_42 rfl ?_
    refine Z_iload_n 2 dX12_mean_44 rfl rfl ?_
    obtain ⟨g6, h⟩ := h
    refine Z_icmp_lt (tgt := 51) dX12_mean_45 (by decide) g1 g6 (fun c => ?_) (fun c => ?_)
    · replace h := h.1 c
      refine Z_aload_n 0 dX12_mean_51 rfl rfl ?_
      obtain ⟨g7, h⟩ := h
      refine Z_get (T := TX12) (N := 30) (ci := 12) (t := 2) 3 dX12_mean_52 la_211 (z_leN la_211 (by decide)) rfl (by decide) inX12 (by decide) (flX12_20 rfl) rfl ?_
      refine Z_top (y := 215) ((Fix.get g7 la_211 3 4 (by decide +kernel)).trans (by clear h; omega)) ?_
      refine Z_bipush dX12_mean_55 (by decide) ?_
      refine Z_iload_n 1 dX12_mean_57 rfl rfl ?_
      refine Z_imul dX12_mean_58 ?_
      refine Z_iload dX12_mean_59 rfl ?_
      refine Z_iadd dX12_mean_61 ?_
      obtain ⟨g8, h⟩ := h
      obtain ⟨g9, h⟩ := h
      refine Z_lald dX12_mean_62 la_215 (z_leN la_215 (by decide)) g8 g9 ?_
      refine Z_lstore (L' := [(2, 211), (0, x1), (0, x2), (0, x3), (0, x4), (1, (σ 215 ((60 * x1) + x4))), (9, 0)]) dX12_mean_63 (Nat.le_of_ble_eq_true rfl) rfl ?_
      refine Z_iload dX12_mean_65 rfl ?_
      refine Z_if_ne (tgt := 85) dX12_mean_67 (by decide) g1 (fun c => ?_) (fun c => ?_)
      · replace h := h.1 c
        refine Z_lload dX12_mean_85 rfl ?_
        refine Z_ldc2 (x := (-20)) dX12_mean_87 ctX12_176 rfl ?_
        refine Z_ldc2 (x := 20) dX12_mean_90 ctX12_178 rfl ?_
        refine Z_invS (M' := mX12_isIn) (ρ' := rX12_isIn zN) (st := []) [(1, (σ 215 ((60 * x1) + x4))), (1, (-20)), (1, 20)] dX12_mean_93 rfl rfl (kX12_isIn.cl (Nat.le_of_ble_eq_true rfl) (Nat.le_refl _) (Nat.le_refl _) (Nat.le_of_ble_eq_true rfl) (Nat.le_of_ble_eq_true rfl) (Nat.le_of_ble_eq_true rfl)) (mlX12_172 rfl) sX12_isIn h (z_kz (fun r10 σ11 h => ?_))
        refine Z_zif_ne (tgt := 102) dX12_mean_96 (by decide) (fun c => ?_) (fun c => ?_)
        · replace h := h.1 c
          refine Z_aload_n 0 dX12_mean_102 rfl rfl ?_
          obtain ⟨g12, h⟩ := h
          refine Z_get (T := TX12) (N := 30) (ci := 12) (t := 2) 22 dX12_mean_103 la_211 (z_leN la_211 (by decide)) rfl (by decide) inX12 (by decide) (flX12_57 rfl) rfl ?_
          refine Z_top (y := 225) ((Fix.get g12 la_211 22 14 (by decide +kernel)).trans (by clear h; omega)) ?_
          refine Z_iload dX12_mean_106 rfl ?_
          refine Z_lload dX12_mean_108 rfl ?_
          refine Z_l2i dX12_mean_110 ?_
          obtain ⟨g13, h⟩ := h
          obtain ⟨g14, h⟩ := h
          refine Z_iast dX12_mean_111 la_225 (z_leN la_225 (by decide)) g13 g14 ?_
          refine Z_iconst dX12_mean_112 ?_
          refine Z_iconst dX12_mean_113 ?_
          refine Z_aload_n 0 dX12_mean_114 rfl rfl ?_
          refine Z_get (T := TX12) (N := 30) (ci := 12) (t := 2) 22 dX12_mean_115 la_211 (z_leN la_211 (by decide)) rfl (by decide) inX12 (by decide) (flX12_57 rfl) rfl ?_
          refine Z_top (y := 225) ((Fix.get (Fix.upA g12 la_225 (by decide)) la_211 22 14 (by decide +kernel)).trans (by clear h; omega)) ?_
          refine Z_iconst dX12_mean_118 ?_
          refine Z_iald dX12_mean_119 la_225 (z_leN la_225 (by decide)) (by decide) (by decide) ?_
          refine Z_imul dX12_mean_120 ?_
          refine Z_iadd dX12_mean_121 ?_
          refine Z_istore_n (L' := [(2, 211), (0, x1), (0, x2), (0, (1 + (2 * ((z_up σ11 225 x4 (σ 215 ((60 * x1) + x4))) 225 0)))), (0, x4), (1, (σ 215 ((60 * x1) + x4))), (9, 0)]) 3 dX12_mean_122 rfl (Nat.le_of_ble_eq_true rfl) rfl ?_
          refine Z_iinc (L' := [(2, 211), (0, x1), (0, x2), (0, (1 + (2 * ((z_up σ11 225 x4 (σ 215 ((60 * x1) + x4))) 225 0)))), (0, (x4 + 1)), (1, (σ 215 ((60 * x1) + x4))), (9, 0)]) dX12_mean_123 rfl (Nat.le_of_ble_eq_true rfl) rfl ?_
          refine Z_goto (tgt := 36) dX12_mean_126 (by decide) ?_
          exact Z_few (z_few_k (z_few_k (z_few_k (z_few_k (z_few_k (z_few_d (z_few_k z_few_0))))))) h
        · replace h := h.2 c
          refine Z_bipush dX12_mean_99 (by decide) ?_
          exact Z_ireturn dX12_mean_101 rfl rfl ⟨rfl, h⟩
      · replace h := h.2 c
        refine Z_lload dX12_mean_70 rfl ?_
        refine Z_lconst (x := 1) dX12_mean_72 rfl ?_
        refine Z_ldc2 (x := 6) dX12_mean_73 ctX12_252 rfl ?_
        refine Z_invS (M' := mX12_isIn) (ρ' := rX12_isIn zN) (st := []) [(1, (σ 215 ((60 * x1) + x4))), (1, 1), (1, 6)] dX12_mean_76 rfl rfl (kX12_isIn.cl (Nat.le_of_ble_eq_true rfl) (Nat.le_refl _) (Nat.le_refl _) (Nat.le_of_ble_eq_true rfl) (Nat.le_of_ble_eq_true rfl) (Nat.le_of_ble_eq_true rfl)) (mlX12_172 rfl) sX12_isIn h (z_kz (fun r15 σ16 h => ?_))
        refine Z_zif_ne (tgt := 102) dX12_mean_79 (by decide) (fun c => ?_) (fun c => ?_)
        · replace h := h.1 c
          refine Z_aload_n 0 dX12_mean_102 rfl rfl ?_
          obtain ⟨g17, h⟩ := h
          refine Z_get (T := TX12) (N := 30) (ci := 12) (t := 2) 22 dX12_mean_103 la_211 (z_leN la_211 (by decide)) rfl (by decide) inX12 (by decide) (flX12_57 rfl) rfl ?_
          refine Z_top (y := 225) ((Fix.get g17 la_211 22 14 (by decide +kernel)).trans (by clear h; omega)) ?_
          refine Z_iload dX12_mean_106 rfl ?_
          refine Z_lload dX12_mean_108 rfl ?_
          refine Z_l2i dX12_mean_110 ?_
          obtain ⟨g18, h⟩ := h
          obtain ⟨g19, h⟩ := h
          refine Z_iast dX12_mean_111 la_225 (z_leN la_225 (by decide)) g18 g19 ?_
          refine Z_iconst dX12_mean_112 ?_
          refine Z_iconst dX12_mean_113 ?_
          refine Z_aload_n 0 dX12_mean_114 rfl rfl ?_
          refine Z_get (T := TX12) (N := 30) (ci := 12) (t := 2) 22 dX12_mean_115 la_211 (z_leN la_211 (by decide)) rfl (by decide) inX12 (by decide) (flX12_57 rfl) rfl ?_
          refine Z_top (y := 225) ((Fix.get (Fix.upA g17 la_225 (by decide)) la_211 22 14 (by decide +kernel)).trans (by clear h; omega)) ?_
          refine Z_iconst dX12_mean_118 ?_
          refine Z_iald dX12_mean_119 la_225 (z_leN la_225 (by decide)) (by decide) (by decide) ?_
          refine Z_imul dX12_mean_120 ?_
          refine Z_iadd dX12_mean_121 ?_
          refine Z_istore_n (L' := [(2, 211), (0, x1), (0, x2), (0, (1 + (2 * ((z_up σ16 225 x4 (σ 215 ((60 * x1) + x4))) 225 0)))), (0, x4), (1, (σ 215 ((60 * x1) + x4))), (9, 0)]) 3 dX12_mean_122 rfl (Nat.le_of_ble_eq_true rfl) rfl ?_
          refine Z_iinc (L' := [(2, 211), (0, x1), (0, x2), (0, (1 + (2 * ((z_up σ16 225 x4 (σ 215 ((60 * x1) + x4))) 225 0)))), (0, (x4 + 1)), (1, (σ 215 ((60 * x1) + x4))), (9, 0)]) dX12_mean_123 rfl (Nat.le_of_ble_eq_true rfl) rfl ?_
          refine Z_goto (tgt := 36) dX12_mean_126 (by decide) ?_
          exact Z_few (z_few_k (z_few_k (z_few_k (z_few_k (z_few_k (z_few_d (z_few_k z_few_0))))))) h
        · replace h := h.2 c
          refine Z_goto (tgt := 99) dX12_mean_82 (by decide) ?_
          refine Z_bipush dX12_mean_99 (by decide) ?_
          exact Z_ireturn dX12_mean_101 rfl rfl ⟨rfl, h⟩
    · replace h := h.2 c
      refine Z_bipush dX12_mean_48 (by decide) ?_
      exact Z_ireturn dX12_mean_50 rfl rfl ⟨rfl, h⟩
theorem bk_X12_mean_160 {X : ZS} {σ : ZM} {T : Int → ZM → Prop} {x4 : Int} (h : (r32 x4) ∧ (r32 (σ 211 23)) ∧ (((σ 211 23) ≤ x4) → ZC X (rX12_isAnswered zN) mX12_isAnswered [(2, 211)] zN σ (zQz (fun r3 σ4 => ((r3 = false) → T (-7) σ4) ∧ ((r3 = true) → T 0 σ4)))) ∧ ((¬ ((σ 211 23) ≤ x4)) → (Fix σ) ∧ (0 ≤ (1 + (2 * x4))) ∧ ((1 + (2 * x4)) < 60) ∧ (0 ≤ x4) ∧ (x4 < 6) ∧ (0 ≤ (2 + (2 * x4))) ∧ ((2 + (2 * x4)) < 60) ∧ Z X (rX12_mean zN) mX12_mean 160 [(2, 211), (9, 0), (9, 0), (9, 0), (0, (x4 + 1)), (9, 0), (9, 0)] [] zN (z_up (z_up σ 226 x4 (σ 225 (1 + (2 * x4)))) 227 x4 (σ 225 (2 + (2 * x4)))) (zQi T))) : Z X (rX12_mean zN) mX12_mean 160 [(2, 211), (9, 0), (9, 0), (9, 0), (0, x4), (9, 0), (9, 0)] [] zN σ (zQi T) := by
  refine Z_iload dX12_mean_160 rfl ?_
  refine Z_aload_n 0 dX12_mean_162 rfl rfl ?_
  refine Z_get (T := TX12) (N := 30) (ci := 12) (t := 0) 23 dX12_mean_163 la_211 (z_leN la_211 (by decide)) rfl (by decide) inX12 (by decide) (flX12_211 rfl) rfl ?_
  obtain ⟨g1, h⟩ := h
  obtain ⟨g2, h⟩ := h
  refine Z_icmp_ge (tgt := 211) dX12_mean_166 (by decide) g1 g2 (fun c => ?_) (fun c => ?_)
  · replace h := h.1 c
    refine Z_aload_n 0 dX12_mean_211 rfl rfl ?_
    refine Z_invV (T := TX12) (N := 30) (ci := 12) (M' := mX12_isAnswered) (ρ' := rX12_isAnswered zN) (st := []) [] dX12_mean_212 rfl rfl la_211 (z_leN la_211 (by decide)) (by decide) rfl rfl (kX12_isAnswered.cl (Nat.le_of_ble_eq_true rfl) (Nat.le_refl _) (Nat.le_refl _) (Nat.le_of_ble_eq_true rfl) (Nat.le_of_ble_eq_true rfl) (Nat.le_of_ble_eq_true rfl)) (mlX12_248 rfl) iX12_isAnswered sX12_isAnswered h (z_kz (fun r3 σ4 h => ?_))
    refine Z_zif_eq (tgt := 222) dX12_mean_215 (by decide) (fun c => ?_) (fun c => ?_)
    · replace h := h.1 c
      refine Z_bipush dX12_mean_222 (by decide) ?_
      exact Z_ireturn dX12_mean_224 rfl rfl ⟨rfl, h⟩
    · replace h := h.2 c
      refine Z_iconst dX12_mean_218 ?_
      refine Z_goto (tgt := 224) dX12_mean_219 (by decide) ?_
      exact Z_ireturn dX12_mean_224 rfl rfl ⟨rfl, h⟩
  · replace h := h.2 c
    refine Z_aload_n 0 dX12_mean_169 rfl rfl ?_
    obtain ⟨g5, h⟩ := h
    refine Z_get (T := TX12) (N := 30) (ci := 12) (t := 2) 24 dX12_mean_170 la_211 (z_leN la_211 (by decide)) rfl (by decide) inX12 (by decide) (flX12_60 rfl) rfl ?_
    refine Z_top (y := 226) ((Fix.get g5 la_211 24 15 (by decide +kernel)).trans (by clear h; omega)) ?_
    refine Z_iload dX12_mean_173 rfl ?_
    refine Z_aload_n 0 dX12_mean_175 rfl rfl ?_
    refine Z_get (T := TX12) (N := 30) (ci := 12) (t := 2) 22 dX12_mean_176 la_211 (z_leN la_211 (by decide)) rfl (by decide) inX12 (by decide) (flX12_57 rfl) rfl ?_
    refine Z_top (y := 225) ((Fix.get g5 la_211 22 14 (by decide +kernel)).trans (by clear h; omega)) ?_
    refine Z_iconst dX12_mean_179 ?_
    refine Z_iconst dX12_mean_180 ?_
    refine Z_iload dX12_mean_181 rfl ?_
    refine Z_imul dX12_mean_183 ?_
    refine Z_iadd dX12_mean_184 ?_
    obtain ⟨g6, h⟩ := h
    obtain ⟨g7, h⟩ := h
    refine Z_iald dX12_mean_185 la_225 (z_leN la_225 (by decide)) g6 g7 ?_
    obtain ⟨g8, h⟩ := h
    obtain ⟨g9, h⟩ := h
    refine Z_iast dX12_mean_186 la_226 (z_leN la_226 (by decide)) g8 g9 ?_
    refine Z_aload_n 0 dX12_mean_187 rfl rfl ?_
    refine Z_get (T := TX12) (N := 30) (ci := 12) (t := 2) 25 dX12_mean_188 la_211 (z_leN la_211 (by decide)) rfl (by decide) inX12 (by decide) (flX12_63 rfl) rfl ?_
    refine Z_top (y := 227) ((Fix.get (Fix.upA g5 la_226 (by decide)) la_211 25 16 (by decide +kernel)).trans (by clear h; omega)) ?_
    refine Z_iload dX12_mean_191 rfl ?_
    refine Z_aload_n 0 dX12_mean_193 rfl rfl ?_
    refine Z_get (T := TX12) (N := 30) (ci := 12) (t := 2) 22 dX12_mean_194 la_211 (z_leN la_211 (by decide)) rfl (by decide) inX12 (by decide) (flX12_57 rfl) rfl ?_
    refine Z_top (y := 225) ((Fix.get (Fix.upA g5 la_226 (by decide)) la_211 22 14 (by decide +kernel)).trans (by clear h; omega)) ?_
    refine Z_iconst dX12_mean_197 ?_
    refine Z_iconst dX12_mean_198 ?_
    refine Z_iload dX12_mean_199 rfl ?_
    refine Z_imul dX12_mean_201 ?_
    refine Z_iadd dX12_mean_202 ?_
    obtain ⟨g10, h⟩ := h
    obtain ⟨g11, h⟩ := h
    refine Z_iald dX12_mean_203 la_225 (z_leN la_225 (by decide)) g10 g11 ?_
    refine Z_top (z_up_ne _ (Or.inl (by decide))) ?_
    refine Z_iast dX12_mean_204 la_227 (z_leN la_227 (by decide)) g8 g9 ?_
    refine Z_iinc (L' := [(2, 211), (9, 0), (9, 0), (9, 0), (0, (x4 + 1)), (9, 0), (9, 0)]) dX12_mean_205 rfl (Nat.le_of_ble_eq_true rfl) rfl ?_
    refine Z_goto (tgt := 160) dX12_mean_208 (by decide) ?_
    exact Z_few (z_few_k (z_few_k (z_few_k (z_few_k (z_few_k (z_few_k (z_few_k z_few_0))))))) h
theorem bk_X12_answer {X : ZS} {σ : ZM} {T : Bool → ZM → Prop} {x1 : Int} (h : (r32 x1) ∧ ((x1 < 10) → Z X (rX12_answer zN) mX12_answer 22 [(2, 211), (0, x1), (9, 0), (9, 0)] [(0, 0)] zN σ (zQz T)) ∧ ((¬ (x1 < 10)) → ZC X (rX12_isSeen zN) mX12_isSeen [(2, 211), (0, (x1 - 10))] zN σ (zQz (fun r2 σ3 => ((r2 = false) → Z X (rX12_answer zN) mX12_answer 22 [(2, 211), (0, x1), (9, 0), (9, 0)] [(0, 0)] zN σ3 (zQz T)) ∧ ((r2 = true) → Z X (rX12_answer zN) mX12_answer 22 [(2, 211), (0, x1), (9, 0), (9, 0)] [(0, 1)] zN σ3 (zQz T)))))) : ZC X (rX12_answer zN) mX12_answer [(2, 211), (0, x1)] zN σ (zQz T) := by
  show Z X _ _ 0 [(2, 211), (0, x1), (9, 0), (9, 0)] [] _ σ _
  refine Z_iload_n 1 dX12_answer_0 rfl rfl ?_
  refine Z_bipush dX12_answer_1 (by decide) ?_
  obtain ⟨g1, h⟩ := h
  refine Z_icmp_lt (tgt := 21) dX12_answer_3 (by decide) g1 ⟨by decide, by decide⟩ (fun c => ?_) (fun c => ?_)
  · replace h := h.1 c
    refine Z_iconst dX12_answer_21 ?_
    exact Z_few (z_few_k (z_few_k (z_few_k (z_few_k z_few_0)))) h
  · replace h := h.2 c
    refine Z_aload_n 0 dX12_answer_6 rfl rfl ?_
    refine Z_iload_n 1 dX12_answer_7 rfl rfl ?_
    refine Z_bipush dX12_answer_8 (by decide) ?_
    refine Z_isub dX12_answer_10 ?_
    refine Z_invV (T := TX12) (N := 30) (ci := 12) (M' := mX12_isSeen) (ρ' := rX12_isSeen zN) (st := []) [(0, (x1 - 10))] dX12_answer_11 rfl rfl la_211 (z_leN la_211 (by decide)) (by decide) rfl rfl (kX12_isSeen.cl (Nat.le_of_ble_eq_true rfl) (Nat.le_refl _) (Nat.le_refl _) (Nat.le_of_ble_eq_true rfl) (Nat.le_of_ble_eq_true rfl) (Nat.le_of_ble_eq_true rfl)) (mlX12_190 rfl) iX12_isSeen sX12_isSeen h (z_kz (fun r2 σ3 h => ?_))
    refine Z_zif_eq (tgt := 21) dX12_answer_14 (by decide) (fun c => ?_) (fun c => ?_)
    · replace h := h.1 c
      refine Z_iconst dX12_answer_21 ?_
      exact Z_few (z_few_k (z_few_k (z_few_k (z_few_k z_few_0)))) h
    · replace h := h.2 c
      refine Z_iconst dX12_answer_17 ?_
      refine Z_goto (tgt := 22) dX12_answer_18 (by decide) ?_
      exact Z_few (z_few_k (z_few_k (z_few_k (z_few_k z_few_0)))) h
theorem bk_X12_answer_22 {X : ZS} {σ : ZM} {T : Bool → ZM → Prop} {x1 : Int} {y0 : Int} (h : (r32 (σ 211 13)) ∧ (((σ 211 13) = 0) → T false σ) ∧ ((¬ (σ 211 13) = 0) → (r32 x1) ∧ ((x1 < 0) → (r32 y0) ∧ ((¬ y0 = 0) → ((y0 = 0) → ZC X (rX12_top zN) mX12_top [(2, 211), (0, x1)] zN σ (zQi (fun r4 σ5 => ZC X (rX12_bottom zN) mX12_bottom [(2, 211), (0, x1)] zN σ5 (zQi (fun r6 σ7 => ZC X (rX12_result zN) mX12_result [(2, 211), (0, r4), (0, r6)] zN σ7 (zQv (fun σ9 => T true σ9))))))) ∧ ((¬ y0 = 0) → ZC X (rX12_top zN) mX12_top [(2, 211), (0, (x1 - 7))] zN σ (zQi (fun r10 σ11 => ZC X (rX12_bottom zN) mX12_bottom [(2, 211), (0, (x1 - 7))] zN σ11 (zQi (fun r12 σ13 => ZC X (rX12_result zN) mX12_result [(2, 211), (0, r10), (0, r12)] zN σ13 (zQv (fun σ15 => T true σ15)))))))) ∧ ((y0 = 0) → T false σ)) ∧ ((¬ (x1 < 0)) → ((x1 ≤ 2) → (r32 y0) ∧ ((y0 = 0) → ZC X (rX12_top zN) mX12_top [(2, 211), (0, x1)] zN σ (zQi (fun r17 σ18 => ZC X (rX12_bottom zN) mX12_bottom [(2, 211), (0, x1)] zN σ18 (zQi (fun r19 σ20 => ZC X (rX12_result zN) mX12_result [(2, 211), (0, r17), (0, r19)] zN σ20 (zQv (fun σ22 => T true σ22))))))) ∧ ((¬ y0 = 0) → ZC X (rX12_top zN) mX12_top [(2, 211), (0, (x1 - 7))] zN σ (zQi (fun r23 σ24 => ZC X (rX12_bottom zN) mX12_bottom [(2, 211), (0, (x1 - 7))] zN σ24 (zQi (fun r25 σ26 => ZC X (rX12_result zN) mX12_result [(2, 211), (0, r23), (0, r25)] zN σ26 (zQv (fun σ28 => T true σ28)))))))) ∧ ((¬ (x1 ≤ 2)) → (r32 y0) ∧ ((¬ y0 = 0) → ((y0 = 0) → ZC X (rX12_top zN) mX12_top [(2, 211), (0, x1)] zN σ (zQi (fun r30 σ31 => ZC X (rX12_bottom zN) mX12_bottom [(2, 211), (0, x1)] zN σ31 (zQi (fun r32 σ33 => ZC X (rX12_result zN) mX12_result [(2, 211), (0, r30), (0, r32)] zN σ33 (zQv (fun σ35 => T true σ35))))))) ∧ ((¬ y0 = 0) → ZC X (rX12_top zN) mX12_top [(2, 211), (0, (x1 - 7))] zN σ (zQi (fun r36 σ37 => ZC X (rX12_bottom zN) mX12_bottom [(2, 211), (0, (x1 - 7))] zN σ37 (zQi (fun r38 σ39 => ZC X (rX12_result zN) mX12_result [(2, 211), (0, r36), (0, r38)] zN σ39 (zQv (fun σ41 => T true σ41)))))))) ∧ ((y0 = 0) → T false σ))))) : Z X (rX12_answer zN) mX12_answer 22 [(2, 211), (0, x1), (9, 0), (9, 0)] [(0, y0)] zN σ (zQz T) := by
  refine Z_istore_n (L' := [(2, 211), (0, x1), (0, y0), (9, 0)]) 2 dX12_answer_22 rfl (Nat.le_of_ble_eq_true rfl) rfl ?_
  refine Z_aload_n 0 dX12_answer_23 rfl rfl ?_
  refine Z_get (T := TX12) (N := 30) (ci := 12) (t := 0) 13 dX12_answer_24 la_211 (z_leN la_211 (by decide)) rfl (by decide) inX12 (by decide) (flX12_186 rfl) rfl ?_
  obtain ⟨g1, h⟩ := h
  refine Z_if_eq (tgt := 43) dX12_answer_27 (by decide) g1 (fun c => ?_) (fun c => ?_)
  · replace h := h.1 c
    refine Z_iconst dX12_answer_43 ?_
    exact Z_zreturn dX12_answer_44 rfl (Or.inl rfl) rfl ⟨rfl, false, rfl, h⟩
  · replace h := h.2 c
    refine Z_iload_n 1 dX12_answer_30 rfl rfl ?_
    obtain ⟨g2, h⟩ := h
    refine Z_if_lt (tgt := 39) dX12_answer_31 (by decide) g2 (fun c => ?_) (fun c => ?_)
    · replace h := h.1 c
      refine Z_iload_n 2 dX12_answer_39 rfl rfl ?_
      obtain ⟨g3, h⟩ := h
      refine Z_if_ne (tgt := 45) dX12_answer_40 (by decide) g3 (fun c => ?_) (fun c => ?_)
      · replace h := h.1 c
        refine Z_iload_n 2 dX12_answer_45 rfl rfl ?_
        refine Z_if_eq (tgt := 56) dX12_answer_46 (by decide) g3 (fun c => ?_) (fun c => ?_)
        · replace h := h.1 c
          refine Z_iload_n 1 dX12_answer_56 rfl rfl ?_
          refine Z_istore_n (L' := [(2, 211), (0, x1), (0, y0), (0, x1)]) 3 dX12_answer_57 rfl (Nat.le_of_ble_eq_true rfl) rfl ?_
          refine Z_aload_n 0 dX12_answer_58 rfl rfl ?_
          refine Z_aload_n 0 dX12_answer_59 rfl rfl ?_
          refine Z_iload_n 3 dX12_answer_60 rfl rfl ?_
          refine Z_invV (T := TX12) (N := 30) (ci := 12) (M' := mX12_top) (ρ' := rX12_top zN) (st := [(2, 211)]) [(0, x1)] dX12_answer_61 rfl rfl la_211 (z_leN la_211 (by decide)) (by decide) rfl rfl (kX12_top.cl (Nat.le_of_ble_eq_true rfl) (Nat.le_refl _) (Nat.le_refl _) (Nat.le_of_ble_eq_true rfl) (Nat.le_of_ble_eq_true rfl) (Nat.le_of_ble_eq_true rfl)) (mlX12_239 rfl) iX12_top sX12_top h (z_ki (fun r4 σ5 h => ?_))
          refine Z_aload_n 0 dX12_answer_64 rfl rfl ?_
          refine Z_iload_n 3 dX12_answer_65 rfl rfl ?_
          refine Z_invV (T := TX12) (N := 30) (ci := 12) (M' := mX12_bottom) (ρ' := rX12_bottom zN) (st := [(0, r4), (2, 211)]) [(0, x1)] dX12_answer_66 rfl rfl la_211 (z_leN la_211 (by decide)) (by decide) rfl rfl (kX12_bottom.cl (Nat.le_of_ble_eq_true rfl) (Nat.le_refl _) (Nat.le_refl _) (Nat.le_of_ble_eq_true rfl) (Nat.le_of_ble_eq_true rfl) (Nat.le_of_ble_eq_true rfl)) (mlX12_245 rfl) iX12_bottom sX12_bottom h (z_ki (fun r6 σ7 h => ?_))
          refine Z_invV (T := TX12) (N := 30) (ci := 12) (M' := mX12_result) (ρ' := rX12_result zN) (st := []) [(0, r4), (0, r6)] dX12_answer_69 rfl rfl la_211 (z_leN la_211 (by decide)) (by decide) rfl rfl (kX12_result.cl (Nat.le_of_ble_eq_true rfl) (Nat.le_refl _) (Nat.le_refl _) (Nat.le_of_ble_eq_true rfl) (Nat.le_of_ble_eq_true rfl) (Nat.le_of_ble_eq_true rfl)) (mlX12_254 rfl) iX12_result sX12_result h (z_kv (fun σ9 h => ?_))
          refine Z_iconst dX12_answer_72 ?_
          exact Z_zreturn dX12_answer_73 rfl (Or.inr rfl) rfl ⟨rfl, true, rfl, h⟩
        · replace h := h.2 c
          refine Z_iload_n 1 dX12_answer_49 rfl rfl ?_
          refine Z_bipush dX12_answer_50 (by decide) ?_
          refine Z_isub dX12_answer_52 ?_
          refine Z_goto (tgt := 57) dX12_answer_53 (by decide) ?_
          refine Z_istore_n (L' := [(2, 211), (0, x1), (0, y0), (0, (x1 - 7))]) 3 dX12_answer_57 rfl (Nat.le_of_ble_eq_true rfl) rfl ?_
          refine Z_aload_n 0 dX12_answer_58 rfl rfl ?_
          refine Z_aload_n 0 dX12_answer_59 rfl rfl ?_
          refine Z_iload_n 3 dX12_answer_60 rfl rfl ?_
          refine Z_invV (T := TX12) (N := 30) (ci := 12) (M' := mX12_top) (ρ' := rX12_top zN) (st := [(2, 211)]) [(0, (x1 - 7))] dX12_answer_61 rfl rfl la_211 (z_leN la_211 (by decide)) (by decide) rfl rfl (kX12_top.cl (Nat.le_of_ble_eq_true rfl) (Nat.le_refl _) (Nat.le_refl _) (Nat.le_of_ble_eq_true rfl) (Nat.le_of_ble_eq_true rfl) (Nat.le_of_ble_eq_true rfl)) (mlX12_239 rfl) iX12_top sX12_top h (z_ki (fun r10 σ11 h => ?_))
          refine Z_aload_n 0 dX12_answer_64 rfl rfl ?_
          refine Z_iload_n 3 dX12_answer_65 rfl rfl ?_
          refine Z_invV (T := TX12) (N := 30) (ci := 12) (M' := mX12_bottom) (ρ' := rX12_bottom zN) (st := [(0, r10), (2, 211)]) [(0, (x1 - 7))] dX12_answer_66 rfl rfl la_211 (z_leN la_211 (by decide)) (by decide) rfl rfl (kX12_bottom.cl (Nat.le_of_ble_eq_true rfl) (Nat.le_refl _) (Nat.le_refl _) (Nat.le_of_ble_eq_true rfl) (Nat.le_of_ble_eq_true rfl) (Nat.le_of_ble_eq_true rfl)) (mlX12_245 rfl) iX12_bottom sX12_bottom h (z_ki (fun r12 σ13 h => ?_))
          refine Z_invV (T := TX12) (N := 30) (ci := 12) (M' := mX12_result) (ρ' := rX12_result zN) (st := []) [(0, r10), (0, r12)] dX12_answer_69 rfl rfl la_211 (z_leN la_211 (by decide)) (by decide) rfl rfl (kX12_result.cl (Nat.le_of_ble_eq_true rfl) (Nat.le_refl _) (Nat.le_refl _) (Nat.le_of_ble_eq_true rfl) (Nat.le_of_ble_eq_true rfl) (Nat.le_of_ble_eq_true rfl)) (mlX12_254 rfl) iX12_result sX12_result h (z_kv (fun σ15 h => ?_))
          refine Z_iconst dX12_answer_72 ?_
          exact Z_zreturn dX12_answer_73 rfl (Or.inr rfl) rfl ⟨rfl, true, rfl, h⟩
      · replace h := h.2 c
        refine Z_iconst dX12_answer_43 ?_
        exact Z_zreturn dX12_answer_44 rfl (Or.inl rfl) rfl ⟨rfl, false, rfl, h⟩
    · replace h := h.2 c
      refine Z_iload_n 1 dX12_answer_34 rfl rfl ?_
      refine Z_iconst dX12_answer_35 ?_
      refine Z_icmp_le (tgt := 45) dX12_answer_36 (by decide) g2 ⟨by decide, by decide⟩ (fun c => ?_) (fun c => ?_)
      · replace h := h.1 c
        refine Z_iload_n 2 dX12_answer_45 rfl rfl ?_
        obtain ⟨g16, h⟩ := h
        refine Z_if_eq (tgt := 56) dX12_answer_46 (by decide) g16 (fun c => ?_) (fun c => ?_)
        · replace h := h.1 c
          refine Z_iload_n 1 dX12_answer_56 rfl rfl ?_
          refine Z_istore_n (L' := [(2, 211), (0, x1), (0, y0), (0, x1)]) 3 dX12_answer_57 rfl (Nat.le_of_ble_eq_true rfl) rfl ?_
          refine Z_aload_n 0 dX12_answer_58 rfl rfl ?_
          refine Z_aload_n 0 dX12_answer_59 rfl rfl ?_
          refine Z_iload_n 3 dX12_answer_60 rfl rfl ?_
          refine Z_invV (T := TX12) (N := 30) (ci := 12) (M' := mX12_top) (ρ' := rX12_top zN) (st := [(2, 211)]) [(0, x1)] dX12_answer_61 rfl rfl la_211 (z_leN la_211 (by decide)) (by decide) rfl rfl (kX12_top.cl (Nat.le_of_ble_eq_true rfl) (Nat.le_refl _) (Nat.le_refl _) (Nat.le_of_ble_eq_true rfl) (Nat.le_of_ble_eq_true rfl) (Nat.le_of_ble_eq_true rfl)) (mlX12_239 rfl) iX12_top sX12_top h (z_ki (fun r17 σ18 h => ?_))
          refine Z_aload_n 0 dX12_answer_64 rfl rfl ?_
          refine Z_iload_n 3 dX12_answer_65 rfl rfl ?_
          refine Z_invV (T := TX12) (N := 30) (ci := 12) (M' := mX12_bottom) (ρ' := rX12_bottom zN) (st := [(0, r17), (2, 211)]) [(0, x1)] dX12_answer_66 rfl rfl la_211 (z_leN la_211 (by decide)) (by decide) rfl rfl (kX12_bottom.cl (Nat.le_of_ble_eq_true rfl) (Nat.le_refl _) (Nat.le_refl _) (Nat.le_of_ble_eq_true rfl) (Nat.le_of_ble_eq_true rfl) (Nat.le_of_ble_eq_true rfl)) (mlX12_245 rfl) iX12_bottom sX12_bottom h (z_ki (fun r19 σ20 h => ?_))
          refine Z_invV (T := TX12) (N := 30) (ci := 12) (M' := mX12_result) (ρ' := rX12_result zN) (st := []) [(0, r17), (0, r19)] dX12_answer_69 rfl rfl la_211 (z_leN la_211 (by decide)) (by decide) rfl rfl (kX12_result.cl (Nat.le_of_ble_eq_true rfl) (Nat.le_refl _) (Nat.le_refl _) (Nat.le_of_ble_eq_true rfl) (Nat.le_of_ble_eq_true rfl) (Nat.le_of_ble_eq_true rfl)) (mlX12_254 rfl) iX12_result sX12_result h (z_kv (fun σ22 h => ?_))
          refine Z_iconst dX12_answer_72 ?_
          exact Z_zreturn dX12_answer_73 rfl (Or.inr rfl) rfl ⟨rfl, true, rfl, h⟩
        · replace h := h.2 c
          refine Z_iload_n 1 dX12_answer_49 rfl rfl ?_
          refine Z_bipush dX12_answer_50 (by decide) ?_
          refine Z_isub dX12_answer_52 ?_
          refine Z_goto (tgt := 57) dX12_answer_53 (by decide) ?_
          refine Z_istore_n (L' := [(2, 211), (0, x1), (0, y0), (0, (x1 - 7))]) 3 dX12_answer_57 rfl (Nat.le_of_ble_eq_true rfl) rfl ?_
          refine Z_aload_n 0 dX12_answer_58 rfl rfl ?_
          refine Z_aload_n 0 dX12_answer_59 rfl rfl ?_
          refine Z_iload_n 3 dX12_answer_60 rfl rfl ?_
          refine Z_invV (T := TX12) (N := 30) (ci := 12) (M' := mX12_top) (ρ' := rX12_top zN) (st := [(2, 211)]) [(0, (x1 - 7))] dX12_answer_61 rfl rfl la_211 (z_leN la_211 (by decide)) (by decide) rfl rfl (kX12_top.cl (Nat.le_of_ble_eq_true rfl) (Nat.le_refl _) (Nat.le_refl _) (Nat.le_of_ble_eq_true rfl) (Nat.le_of_ble_eq_true rfl) (Nat.le_of_ble_eq_true rfl)) (mlX12_239 rfl) iX12_top sX12_top h (z_ki (fun r23 σ24 h => ?_))
          refine Z_aload_n 0 dX12_answer_64 rfl rfl ?_
          refine Z_iload_n 3 dX12_answer_65 rfl rfl ?_
          refine Z_invV (T := TX12) (N := 30) (ci := 12) (M' := mX12_bottom) (ρ' := rX12_bottom zN) (st := [(0, r23), (2, 211)]) [(0, (x1 - 7))] dX12_answer_66 rfl rfl la_211 (z_leN la_211 (by decide)) (by decide) rfl rfl (kX12_bottom.cl (Nat.le_of_ble_eq_true rfl) (Nat.le_refl _) (Nat.le_refl _) (Nat.le_of_ble_eq_true rfl) (Nat.le_of_ble_eq_true rfl) (Nat.le_of_ble_eq_true rfl)) (mlX12_245 rfl) iX12_bottom sX12_bottom h (z_ki (fun r25 σ26 h => ?_))
          refine Z_invV (T := TX12) (N := 30) (ci := 12) (M' := mX12_result) (ρ' := rX12_result zN) (st := []) [(0, r23), (0, r25)] dX12_answer_69 rfl rfl la_211 (z_leN la_211 (by decide)) (by decide) rfl rfl (kX12_result.cl (Nat.le_of_ble_eq_true rfl) (Nat.le_refl _) (Nat.le_refl _) (Nat.le_of_ble_eq_true rfl) (Nat.le_of_ble_eq_true rfl) (Nat.le_of_ble_eq_true rfl)) (mlX12_254 rfl) iX12_result sX12_result h (z_kv (fun σ28 h => ?_))
          refine Z_iconst dX12_answer_72 ?_
          exact Z_zreturn dX12_answer_73 rfl (Or.inr rfl) rfl ⟨rfl, true, rfl, h⟩
      · replace h := h.2 c
        refine Z_iload_n 2 dX12_answer_39 rfl rfl ?_
        obtain ⟨g29, h⟩ := h
        refine Z_if_ne (tgt := 45) dX12_answer_40 (by decide) g29 (fun c => ?_) (fun c => ?_)
        · replace h := h.1 c
          refine Z_iload_n 2 dX12_answer_45 rfl rfl ?_
          refine Z_if_eq (tgt := 56) dX12_answer_46 (by decide) g29 (fun c => ?_) (fun c => ?_)
          · replace h := h.1 c
            refine Z_iload_n 1 dX12_answer_56 rfl rfl ?_
            refine Z_istore_n (L' := [(2, 211), (0, x1), (0, y0), (0, x1)]) 3 dX12_answer_57 rfl (Nat.le_of_ble_eq_true rfl) rfl ?_
            refine Z_aload_n 0 dX12_answer_58 rfl rfl ?_
            refine Z_aload_n 0 dX12_answer_59 rfl rfl ?_
            refine Z_iload_n 3 dX12_answer_60 rfl rfl ?_
            refine Z_invV (T := TX12) (N := 30) (ci := 12) (M' := mX12_top) (ρ' := rX12_top zN) (st := [(2, 211)]) [(0, x1)] dX12_answer_61 rfl rfl la_211 (z_leN la_211 (by decide)) (by decide) rfl rfl (kX12_top.cl (Nat.le_of_ble_eq_true rfl) (Nat.le_refl _) (Nat.le_refl _) (Nat.le_of_ble_eq_true rfl) (Nat.le_of_ble_eq_true rfl) (Nat.le_of_ble_eq_true rfl)) (mlX12_239 rfl) iX12_top sX12_top h (z_ki (fun r30 σ31 h => ?_))
            refine Z_aload_n 0 dX12_answer_64 rfl rfl ?_
            refine Z_iload_n 3 dX12_answer_65 rfl rfl ?_
            refine Z_invV (T := TX12) (N := 30) (ci := 12) (M' := mX12_bottom) (ρ' := rX12_bottom zN) (st := [(0, r30), (2, 211)]) [(0, x1)] dX12_answer_66 rfl rfl la_211 (z_leN la_211 (by decide)) (by decide) rfl rfl (kX12_bottom.cl (Nat.le_of_ble_eq_true rfl) (Nat.le_refl _) (Nat.le_refl _) (Nat.le_of_ble_eq_true rfl) (Nat.le_of_ble_eq_true rfl) (Nat.le_of_ble_eq_true rfl)) (mlX12_245 rfl) iX12_bottom sX12_bottom h (z_ki (fun r32 σ33 h => ?_))
            refine Z_invV (T := TX12) (N := 30) (ci := 12) (M' := mX12_result) (ρ' := rX12_result zN) (st := []) [(0, r30), (0, r32)] dX12_answer_69 rfl rfl la_211 (z_leN la_211 (by decide)) (by decide) rfl rfl (kX12_result.cl (Nat.le_of_ble_eq_true rfl) (Nat.le_refl _) (Nat.le_refl _) (Nat.le_of_ble_eq_true rfl) (Nat.le_of_ble_eq_true rfl) (Nat.le_of_ble_eq_true rfl)) (mlX12_254 rfl) iX12_result sX12_result h (z_kv (fun σ35 h => ?_))
            refine Z_iconst dX12_answer_72 ?_
            exact Z_zreturn dX12_answer_73 rfl (Or.inr rfl) rfl ⟨rfl, true, rfl, h⟩
          · replace h := h.2 c
            refine Z_iload_n 1 dX12_answer_49 rfl rfl ?_
            refine Z_bipush dX12_answer_50 (by decide) ?_
            refine Z_isub dX12_answer_52 ?_
            refine Z_goto (tgt := 57) dX12_answer_53 (by decide) ?_
            refine Z_istore_n (L' := [(2, 211), (0, x1), (0, y0), (0, (x1 - 7))]) 3 dX12_answer_57 rfl (Nat.le_of_ble_eq_true rfl) rfl ?_
            refine Z_aload_n 0 dX12_answer_58 rfl rfl ?_
            refine Z_aload_n 0 dX12_answer_59 rfl rfl ?_
            refine Z_iload_n 3 dX12_answer_60 rfl rfl ?_
            refine Z_invV (T := TX12) (N := 30) (ci := 12) (M' := mX12_top) (ρ' := rX12_top zN) (st := [(2, 211)]) [(0, (x1 - 7))] dX12_answer_61 rfl rfl la_211 (z_leN la_211 (by decide)) (by decide) rfl rfl (kX12_top.cl (Nat.le_of_ble_eq_true rfl) (Nat.le_refl _) (Nat.le_refl _) (Nat.le_of_ble_eq_true rfl) (Nat.le_of_ble_eq_true rfl) (Nat.le_of_ble_eq_true rfl)) (mlX12_239 rfl) iX12_top sX12_top h (z_ki (fun r36 σ37 h => ?_))
            refine Z_aload_n 0 dX12_answer_64 rfl rfl ?_
            refine Z_iload_n 3 dX12_answer_65 rfl rfl ?_
            refine Z_invV (T := TX12) (N := 30) (ci := 12) (M' := mX12_bottom) (ρ' := rX12_bottom zN) (st := [(0, r36), (2, 211)]) [(0, (x1 - 7))] dX12_answer_66 rfl rfl la_211 (z_leN la_211 (by decide)) (by decide) rfl rfl (kX12_bottom.cl (Nat.le_of_ble_eq_true rfl) (Nat.le_refl _) (Nat.le_refl _) (Nat.le_of_ble_eq_true rfl) (Nat.le_of_ble_eq_true rfl) (Nat.le_of_ble_eq_true rfl)) (mlX12_245 rfl) iX12_bottom sX12_bottom h (z_ki (fun r38 σ39 h => ?_))
            refine Z_invV (T := TX12) (N := 30) (ci := 12) (M' := mX12_result) (ρ' := rX12_result zN) (st := []) [(0, r36), (0, r38)] dX12_answer_69 rfl rfl la_211 (z_leN la_211 (by decide)) (by decide) rfl rfl (kX12_result.cl (Nat.le_of_ble_eq_true rfl) (Nat.le_refl _) (Nat.le_refl _) (Nat.le_of_ble_eq_true rfl) (Nat.le_of_ble_eq_true rfl) (Nat.le_of_ble_eq_true rfl)) (mlX12_254 rfl) iX12_result sX12_result h (z_kv (fun σ41 h => ?_))
            refine Z_iconst dX12_answer_72 ?_
            exact Z_zreturn dX12_answer_73 rfl (Or.inr rfl) rfl ⟨rfl, true, rfl, h⟩
        · replace h := h.2 c
          refine Z_iconst dX12_answer_43 ?_
          exact Z_zreturn dX12_answer_44 rfl (Or.inl rfl) rfl ⟨rfl, false, rfl, h⟩
theorem bk_X12_isOff {X : ZS} {σ : ZM} {T : Bool → ZM → Prop} {x1 : Int} {x2 : Int} (h : (r32 (σ 211 4)) ∧ ((2 ≤ (σ 211 4)) → Z X (rX12_isOff zN) mX12_isOff 17 [(2, 211), (0, x1), (0, x2), (0, 0)] [] zN (z_up σ 211 26 0) (zQz T)) ∧ ((¬ (2 ≤ (σ 211 4))) → T false σ)) : ZC X (rX12_isOff zN) mX12_isOff [(2, 211), (0, x1), (0, x2)] zN σ (zQz T) := by
  show Z X _ _ 0 [(2, 211), (0, x1), (0, x2), (9, 0)] [] _ σ _
  refine Z_aload_n 0 dX12_isOff_0 rfl rfl ?_
  refine Z_get (T := TX12) (N := 30) (ci := 12) (t := 0) 4 dX12_isOff_1 la_211 (z_leN la_211 (by decide)) rfl (by decide) inX12 (by decide) (flX12_167 rfl) rfl ?_
  refine Z_iconst dX12_isOff_4 ?_
  obtain ⟨g1, h⟩ := h
  refine Z_icmp_ge (tgt := 10) dX12_isOff_5 (by decide) g1 ⟨by decide, by decide⟩ (fun c => ?_) (fun c => ?_)
  · replace h := h.1 c
    refine Z_aload_n 0 dX12_isOff_10 rfl rfl ?_
    refine Z_iconst dX12_isOff_11 ?_
    refine Z_put (T := TX12) (N := 30) (ci := 12) (t := 0) tyX12 26 dX12_isOff_12 la_211 (z_leN la_211 (by decide)) rfl (by decide) inX12 (by decide) (plX12_214 rfl) rfl tyX12_ok nmX12 rfl (z_nf_i _) ?_
    refine Z_iconst dX12_isOff_15 ?_
    refine Z_istore_n (L' := [(2, 211), (0, x1), (0, x2), (0, 0)]) 3 dX12_isOff_16 rfl (Nat.le_of_ble_eq_true rfl) rfl ?_
    exact Z_few (z_few_k (z_few_k (z_few_k (z_few_k z_few_0)))) h
  · replace h := h.2 c
    refine Z_iconst dX12_isOff_8 ?_
    exact Z_zreturn dX12_isOff_9 rfl (Or.inl rfl) rfl ⟨rfl, false, rfl, h⟩
theorem bk_X12_isOff_17 {X : ZS} {σ : ZM} {T : Bool → ZM → Prop} {x1 : Int} {x2 : Int} {x3 : Int} (h : (r32 x3) ∧ (r32 (σ 211 4)) ∧ (((σ 211 4) ≤ x3) → (Fix σ) ∧ (0 ≤ x2) ∧ (x2 < 8) ∧ ZC X (rX12_weigh zN) mX12_weigh [(2, 211), (0, x1)] zN (z_up (z_up (z_up σ 211 23 1) 226 0 (σ 216 x2)) 227 0 (σ 217 x2)) (zQz (fun r6 σ7 => ((r6 = true) → ZC X (rX12_guess zN) mX12_guess [(2, 211), (0, 11)] zN σ7 (zQv (fun σ9 => ZC X (rX12_turn zN) mX12_turn [(2, 211), (0, 11)] zN σ9 (zQv (fun σ11 => (Fix σ11) ∧ (r32 (σ11 218 x2)) ∧ ZC X (rX12_more zN) mX12_more [(2, 211), (0, 11), (0, 8), (1, (σ11 218 x2))] zN σ11 (zQv (fun σ15 => ZC X (rX12_copy zN) mX12_copy [(2, 211), (0, 12), (0, 8)] zN σ15 (zQv (fun σ17 => T true σ17))))))))) ∧ ((r6 = false) → T false σ7)))) ∧ ((¬ ((σ 211 4) ≤ x3)) → (r32 x2) ∧ ((x3 = x2) → Z X (rX12_isOff zN) mX12_isOff 17 [(2, 211), (0, x1), (0, x2), (0, (x3 + 1))] [] zN σ (zQz T)) ∧ ((¬ x3 = x2) → (Fix σ) ∧ (0 ≤ (σ 211 26)) ∧ ((σ 211 26) < 8) ∧ Z X (rX12_isOff zN) mX12_isOff 17 [(2, 211), (0, x1), (0, x2), (0, (x3 + 1))] [] zN (z_up (z_up σ 228 (σ 211 26) x3) 211 26 ((σ 211 26) + 1)) (zQz T)))) : Z X (rX12_isOff zN) mX12_isOff 17 [(2, 211), (0, x1), (0, x2), (0, x3)] [] zN σ (zQz T) := by
  refine Z_iload_n 3 dX12_isOff_17 rfl rfl ?_
  refine Z_aload_n 0 dX12_isOff_18 rfl rfl ?_
  refine Z_get (T := TX12) (N := 30) (ci := 12) (t := 0) 4 dX12_isOff_19 la_211 (z_leN la_211 (by decide)) rfl (by decide) inX12 (by decide) (flX12_167 rfl) rfl ?_
  obtain ⟨g1, h⟩ := h
  obtain ⟨g2, h⟩ := h
  refine Z_icmp_ge (tgt := 56) dX12_isOff_22 (by decide) g1 g2 (fun c => ?_) (fun c => ?_)
  · replace h := h.1 c
    refine Z_aload_n 0 dX12_isOff_56 rfl rfl ?_
    refine Z_iconst dX12_isOff_57 ?_
    refine Z_put (T := TX12) (N := 30) (ci := 12) (t := 0) tyX12 23 dX12_isOff_58 la_211 (z_leN la_211 (by decide)) rfl (by decide) inX12 (by decide) (plX12_211 rfl) rfl tyX12_ok nmX12 rfl (z_nf_i _) ?_
    refine Z_aload_n 0 dX12_isOff_61 rfl rfl ?_
    obtain ⟨g3, h⟩ := h
    refine Z_get (T := TX12) (N := 30) (ci := 12) (t := 2) 24 dX12_isOff_62 la_211 (z_leN la_211 (by decide)) rfl (by decide) inX12 (by decide) (flX12_60 rfl) rfl ?_
    refine Z_top (y := 226) ((Fix.get (Fix.upF g3 la_211 23 (by decide +kernel)) la_211 24 15 (by decide +kernel)).trans (by clear h; omega)) ?_
    refine Z_iconst dX12_isOff_65 ?_
    refine Z_aload_n 0 dX12_isOff_66 rfl rfl ?_
    refine Z_get (T := TX12) (N := 30) (ci := 12) (t := 2) 5 dX12_isOff_67 la_211 (z_leN la_211 (by decide)) rfl (by decide) inX12 (by decide) (flX12_23 rfl) rfl ?_
    refine Z_top (y := 216) ((Fix.get (Fix.upF g3 la_211 23 (by decide +kernel)) la_211 5 5 (by decide +kernel)).trans (by clear h; omega)) ?_
    refine Z_iload_n 2 dX12_isOff_70 rfl rfl ?_
    obtain ⟨g4, h⟩ := h
    obtain ⟨g5, h⟩ := h
    refine Z_iald dX12_isOff_71 la_216 (z_leN la_216 (by decide)) g4 g5 ?_
    refine Z_top (z_up_ne _ (Or.inl (by decide))) ?_
    refine Z_iast dX12_isOff_72 la_226 (z_leN la_226 (by decide)) (by decide) (by decide) ?_
    refine Z_aload_n 0 dX12_isOff_73 rfl rfl ?_
    refine Z_get (T := TX12) (N := 30) (ci := 12) (t := 2) 25 dX12_isOff_74 la_211 (z_leN la_211 (by decide)) rfl (by decide) inX12 (by decide) (flX12_63 rfl) rfl ?_
    refine Z_top (y := 227) ((Fix.get (Fix.upA (Fix.upF g3 la_211 23 (by decide +kernel)) la_226 (by decide)) la_211 25 16 (by decide +kernel)).trans (by clear h; omega)) ?_
    refine Z_iconst dX12_isOff_77 ?_
    refine Z_aload_n 0 dX12_isOff_78 rfl rfl ?_
    refine Z_get (T := TX12) (N := 30) (ci := 12) (t := 2) 6 dX12_isOff_79 la_211 (z_leN la_211 (by decide)) rfl (by decide) inX12 (by decide) (flX12_26 rfl) rfl ?_
    refine Z_top (y := 217) ((Fix.get (Fix.upA (Fix.upF g3 la_211 23 (by decide +kernel)) la_226 (by decide)) la_211 6 6 (by decide +kernel)).trans (by clear h; omega)) ?_
    refine Z_iload_n 2 dX12_isOff_82 rfl rfl ?_
    refine Z_iald dX12_isOff_83 la_217 (z_leN la_217 (by decide)) g4 g5 ?_
    refine Z_top ((z_up_ne _ (Or.inl (by decide))).trans (z_up_ne _ (Or.inl (by decide)))) ?_
    refine Z_iast dX12_isOff_84 la_227 (z_leN la_227 (by decide)) (by decide) (by decide) ?_
    refine Z_aload_n 0 dX12_isOff_85 rfl rfl ?_
    refine Z_iload_n 1 dX12_isOff_86 rfl rfl ?_
    refine Z_invV (T := TX12) (N := 30) (ci := 12) (M' := mX12_weigh) (ρ' := rX12_weigh zN) (st := []) [(0, x1)] dX12_isOff_87 rfl rfl la_211 (z_leN la_211 (by decide)) (by decide) rfl rfl (kX12_weigh.cl (Nat.le_of_ble_eq_true rfl) (Nat.le_refl _) (Nat.le_refl _) (Nat.le_of_ble_eq_true rfl) (Nat.le_of_ble_eq_true rfl) (Nat.le_of_ble_eq_true rfl)) (mlX12_236 rfl) iX12_weigh sX12_weigh h (z_kz (fun r6 σ7 h => ?_))
    refine Z_zif_ne (tgt := 95) dX12_isOff_90 (by decide) (fun c => ?_) (fun c => ?_)
    · replace h := h.1 c
      refine Z_aload_n 0 dX12_isOff_95 rfl rfl ?_
      refine Z_bipush dX12_isOff_96 (by decide) ?_
      refine Z_invV (T := TX12) (N := 30) (ci := 12) (M' := mX12_guess) (ρ' := rX12_guess zN) (st := []) [(0, 11)] dX12_isOff_98 rfl rfl la_211 (z_leN la_211 (by decide)) (by decide) rfl rfl (kX12_guess.cl (Nat.le_of_ble_eq_true rfl) (Nat.le_refl _) (Nat.le_refl _) (Nat.le_of_ble_eq_true rfl) (Nat.le_of_ble_eq_true rfl) (Nat.le_of_ble_eq_true rfl)) (mlX12_242 rfl) iX12_guess sX12_guess h (z_kv (fun σ9 h => ?_))
      refine Z_aload_n 0 dX12_isOff_101 rfl rfl ?_
      refine Z_bipush dX12_isOff_102 (by decide) ?_
      refine Z_invV (T := TX12) (N := 30) (ci := 12) (M' := mX12_turn) (ρ' := rX12_turn zN) (st := []) [(0, 11)] dX12_isOff_104 rfl rfl la_211 (z_leN la_211 (by decide)) (by decide) rfl rfl (kX12_turn.cl (Nat.le_of_ble_eq_true rfl) (Nat.le_refl _) (Nat.le_refl _) (Nat.le_of_ble_eq_true rfl) (Nat.le_of_ble_eq_true rfl) (Nat.le_of_ble_eq_true rfl)) (mlX12_99 rfl) iX12_turn sX12_turn h (z_kv (fun σ11 h => ?_))
      refine Z_aload_n 0 dX12_isOff_107 rfl rfl ?_
      refine Z_bipush dX12_isOff_108 (by decide) ?_
      refine Z_bipush dX12_isOff_110 (by decide) ?_
      refine Z_aload_n 0 dX12_isOff_112 rfl rfl ?_
      obtain ⟨g12, h⟩ := h
      refine Z_get (T := TX12) (N := 30) (ci := 12) (t := 2) 7 dX12_isOff_113 la_211 (z_leN la_211 (by decide)) rfl (by decide) inX12 (by decide) (flX12_29 rfl) rfl ?_
      refine Z_top (y := 218) ((Fix.get g12 la_211 7 7 (by decide +kernel)).trans (by clear h; omega)) ?_
      refine Z_iload_n 2 dX12_isOff_116 rfl rfl ?_
      refine Z_iald dX12_isOff_117 la_218 (z_leN la_218 (by decide)) g4 g5 ?_
      obtain ⟨g13, h⟩ := h
      refine Z_i2l dX12_isOff_118 g13 ?_
      refine Z_invV (T := TX12) (N := 30) (ci := 12) (M' := mX12_more) (ρ' := rX12_more zN) (st := []) [(0, 11), (0, 8), (1, (σ11 218 x2))] dX12_isOff_119 rfl rfl la_211 (z_leN la_211 (by decide)) (by decide) rfl rfl (kX12_more.cl (Nat.le_of_ble_eq_true rfl) (Nat.le_refl _) (Nat.le_refl _) (Nat.le_of_ble_eq_true rfl) (Nat.le_of_ble_eq_true rfl) (Nat.le_of_ble_eq_true rfl)) (mlX12_134 rfl) iX12_more sX12_more h (z_kv (fun σ15 h => ?_))
      refine Z_aload_n 0 dX12_isOff_122 rfl rfl ?_
      refine Z_bipush dX12_isOff_123 (by decide) ?_
      refine Z_bipush dX12_isOff_125 (by decide) ?_
      refine Z_invV (T := TX12) (N := 30) (ci := 12) (M' := mX12_copy) (ρ' := rX12_copy zN) (st := []) [(0, 12), (0, 8)] dX12_isOff_127 rfl rfl la_211 (z_leN la_211 (by decide)) (by decide) rfl rfl (kX12_copy.cl (Nat.le_of_ble_eq_true rfl) (Nat.le_refl _) (Nat.le_refl _) (Nat.le_of_ble_eq_true rfl) (Nat.le_of_ble_eq_true rfl) (Nat.le_of_ble_eq_true rfl)) (mlX12_118 rfl) iX12_copy sX12_copy h (z_kv (fun σ17 h => ?_))
      refine Z_iconst dX12_isOff_130 ?_
      exact Z_zreturn dX12_isOff_131 rfl (Or.inr rfl) rfl ⟨rfl, true, rfl, h⟩
    · replace h := h.2 c
      refine Z_iconst dX12_isOff_93 ?_
      exact Z_zreturn dX12_isOff_94 rfl (Or.inl rfl) rfl ⟨rfl, false, rfl, h⟩
  · replace h := h.2 c
    refine Z_iload_n 3 dX12_isOff_25 rfl rfl ?_
    refine Z_iload_n 2 dX12_isOff_26 rfl rfl ?_
    obtain ⟨g18, h⟩ := h
    refine Z_icmp_eq (tgt := 50) dX12_isOff_27 (by decide) g1 g18 (fun c => ?_) (fun c => ?_)
    · replace h := h.1 c
      refine Z_iinc (L' := [(2, 211), (0, x1), (0, x2), (0, (x3 + 1))]) dX12_isOff_50 rfl (Nat.le_of_ble_eq_true rfl) rfl ?_
      refine Z_goto (tgt := 17) dX12_isOff_53 (by decide) ?_
      exact Z_few (z_few_k (z_few_k (z_few_k (z_few_k z_few_0)))) h
    · replace h := h.2 c
      refine Z_aload_n 0 dX12_isOff_30 rfl rfl ?_
      obtain ⟨g19, h⟩ := h
      refine Z_get (T := TX12) (N := 30) (ci := 12) (t := 2) 27 dX12_isOff_31 la_211 (z_leN la_211 (by decide)) rfl (by decide) inX12 (by decide) (flX12_66 rfl) rfl ?_
      refine Z_top (y := 228) ((Fix.get g19 la_211 27 17 (by decide +kernel)).trans (by clear h; omega)) ?_
      refine Z_aload_n 0 dX12_isOff_34 rfl rfl ?_
      refine Z_get (T := TX12) (N := 30) (ci := 12) (t := 0) 26 dX12_isOff_35 la_211 (z_leN la_211 (by decide)) rfl (by decide) inX12 (by decide) (flX12_214 rfl) rfl ?_
      refine Z_iload_n 3 dX12_isOff_38 rfl rfl ?_
      obtain ⟨g20, h⟩ := h
      obtain ⟨g21, h⟩ := h
      refine Z_iast dX12_isOff_39 la_228 (z_leN la_228 (by decide)) g20 g21 ?_
      refine Z_aload_n 0 dX12_isOff_40 rfl rfl ?_
      refine Z_dup dX12_isOff_41 (by simp) ?_
      refine Z_get (T := TX12) (N := 30) (ci := 12) (t := 0) 26 dX12_isOff_42 la_211 (z_leN la_211 (by decide)) rfl (by decide) inX12 (by decide) (flX12_214 rfl) rfl ?_
      refine Z_top (z_up_ne _ (Or.inl (by decide))) ?_
      refine Z_iconst dX12_isOff_45 ?_
      refine Z_iadd dX12_isOff_46 ?_
      refine Z_put (T := TX12) (N := 30) (ci := 12) (t := 0) tyX12 26 dX12_isOff_47 la_211 (z_leN la_211 (by decide)) rfl (by decide) inX12 (by decide) (plX12_214 rfl) rfl tyX12_ok nmX12 rfl (z_nf_i _) ?_
      refine Z_iinc (L' := [(2, 211), (0, x1), (0, x2), (0, (x3 + 1))]) dX12_isOff_50 rfl (Nat.le_of_ble_eq_true rfl) rfl ?_
      refine Z_goto (tgt := 17) dX12_isOff_53 (by decide) ?_
      exact Z_few (z_few_k (z_few_k (z_few_k (z_few_k z_few_0)))) h
theorem bk_X12_leftOut {X : ZS} {σ : ZM} {T : Bool → ZM → Prop} {x1 : Int} (h : ZC X (rX12_isSeen zN) mX12_isSeen [(2, 211), (0, x1)] zN σ (zQz (fun r1 σ2 => ((r1 = false) → T false σ2) ∧ ((r1 = true) → (r32 (σ2 211 11)) ∧ (((σ2 211 11) = (-1)) → T false σ2) ∧ ((¬ (σ2 211 11) = (-1)) → ZC X (rX12_isOff zN) mX12_isOff [(2, 211), (0, (σ2 211 11)), (0, x1)] zN σ2 (zQz (fun r4 σ5 => ((r4 = true) → ZC X (rX12_result zN) mX12_result [(2, 211), (0, 11), (0, 12)] zN σ5 (zQv (fun σ7 => T true σ7))) ∧ ((r4 = false) → T false σ5)))))))) : ZC X (rX12_leftOut zN) mX12_leftOut [(2, 211), (0, x1)] zN σ (zQz T) := by
  show Z X _ _ 0 [(2, 211), (0, x1)] [] _ σ _
  refine Z_aload_n 0 dX12_leftOut_0 rfl rfl ?_
  refine Z_iload_n 1 dX12_leftOut_1 rfl rfl ?_
  refine Z_invV (T := TX12) (N := 30) (ci := 12) (M' := mX12_isSeen) (ρ' := rX12_isSeen zN) (st := []) [(0, x1)] dX12_leftOut_2 rfl rfl la_211 (z_leN la_211 (by decide)) (by decide) rfl rfl (kX12_isSeen.cl (Nat.le_of_ble_eq_true rfl) (Nat.le_refl _) (Nat.le_refl _) (Nat.le_of_ble_eq_true rfl) (Nat.le_of_ble_eq_true rfl) (Nat.le_of_ble_eq_true rfl)) (mlX12_190 rfl) iX12_isSeen sX12_isSeen h (z_kz (fun r1 σ2 h => ?_))
  refine Z_zif_eq (tgt := 28) dX12_leftOut_5 (by decide) (fun c => ?_) (fun c => ?_)
  · replace h := h.1 c
    refine Z_iconst dX12_leftOut_28 ?_
    exact Z_zreturn dX12_leftOut_29 rfl (Or.inl rfl) rfl ⟨rfl, false, rfl, h⟩
  · replace h := h.2 c
    refine Z_aload_n 0 dX12_leftOut_8 rfl rfl ?_
    refine Z_get (T := TX12) (N := 30) (ci := 12) (t := 0) 11 dX12_leftOut_9 la_211 (z_leN la_211 (by decide)) rfl (by decide) inX12 (by decide) (flX12_38 rfl) rfl ?_
    refine Z_iconst dX12_leftOut_12 ?_
    obtain ⟨g3, h⟩ := h
    refine Z_icmp_eq (tgt := 28) dX12_leftOut_13 (by decide) g3 ⟨by decide, by decide⟩ (fun c => ?_) (fun c => ?_)
    · replace h := h.1 c
      refine Z_iconst dX12_leftOut_28 ?_
      exact Z_zreturn dX12_leftOut_29 rfl (Or.inl rfl) rfl ⟨rfl, false, rfl, h⟩
    · replace h := h.2 c
      refine Z_aload_n 0 dX12_leftOut_16 rfl rfl ?_
      refine Z_aload_n 0 dX12_leftOut_17 rfl rfl ?_
      refine Z_get (T := TX12) (N := 30) (ci := 12) (t := 0) 11 dX12_leftOut_18 la_211 (z_leN la_211 (by decide)) rfl (by decide) inX12 (by decide) (flX12_38 rfl) rfl ?_
      refine Z_iload_n 1 dX12_leftOut_21 rfl rfl ?_
      refine Z_invV (T := TX12) (N := 30) (ci := 12) (M' := mX12_isOff) (ρ' := rX12_isOff zN) (st := []) [(0, (σ2 211 11)), (0, x1)] dX12_leftOut_22 rfl rfl la_211 (z_leN la_211 (by decide)) (by decide) rfl rfl (kX12_isOff.cl (Nat.le_of_ble_eq_true rfl) (Nat.le_refl _) (Nat.le_refl _) (Nat.le_of_ble_eq_true rfl) (Nat.le_of_ble_eq_true rfl) (Nat.le_of_ble_eq_true rfl)) (mlX12_257 rfl) iX12_isOff sX12_isOff h (z_kz (fun r4 σ5 h => ?_))
      refine Z_zif_ne (tgt := 30) dX12_leftOut_25 (by decide) (fun c => ?_) (fun c => ?_)
      · replace h := h.1 c
        refine Z_aload_n 0 dX12_leftOut_30 rfl rfl ?_
        refine Z_bipush dX12_leftOut_31 (by decide) ?_
        refine Z_bipush dX12_leftOut_33 (by decide) ?_
        refine Z_invV (T := TX12) (N := 30) (ci := 12) (M' := mX12_result) (ρ' := rX12_result zN) (st := []) [(0, 11), (0, 12)] dX12_leftOut_35 rfl rfl la_211 (z_leN la_211 (by decide)) (by decide) rfl rfl (kX12_result.cl (Nat.le_of_ble_eq_true rfl) (Nat.le_refl _) (Nat.le_refl _) (Nat.le_of_ble_eq_true rfl) (Nat.le_of_ble_eq_true rfl) (Nat.le_of_ble_eq_true rfl)) (mlX12_254 rfl) iX12_result sX12_result h (z_kv (fun σ7 h => ?_))
        refine Z_iconst dX12_leftOut_38 ?_
        exact Z_zreturn dX12_leftOut_39 rfl (Or.inr rfl) rfl ⟨rfl, true, rfl, h⟩
      · replace h := h.2 c
        refine Z_iconst dX12_leftOut_28 ?_
        exact Z_zreturn dX12_leftOut_29 rfl (Or.inl rfl) rfl ⟨rfl, false, rfl, h⟩
theorem bk_X12_bare_ {X : ZS} {σ : ZM} {T : ZM → Prop} {x1 : Int} (h : ZC X (rX12_isBelow zN) mX12_isBelow [(2, 211), (0, x1)] zN σ (zQz (fun r1 σ2 => ((r1 = false) → T σ2) ∧ ((r1 = true) → ZC X (rX12_turn zN) mX12_turn [(2, 211), (0, x1)] zN σ2 (zQv (fun σ4 => T σ4)))))) : ZC X (rX12_bare_ zN) mX12_bare_ [(2, 211), (0, x1)] zN σ (zQv T) := by
  show Z X _ _ 0 [(2, 211), (0, x1)] [] _ σ _
  refine Z_aload_n 0 dX12_bare__0 rfl rfl ?_
  refine Z_iload_n 1 dX12_bare__1 rfl rfl ?_
  refine Z_invV (T := TX12) (N := 30) (ci := 12) (M' := mX12_isBelow) (ρ' := rX12_isBelow zN) (st := []) [(0, x1)] dX12_bare__2 rfl rfl la_211 (z_leN la_211 (by decide)) (by decide) rfl rfl (kX12_isBelow.cl (Nat.le_of_ble_eq_true rfl) (Nat.le_refl _) (Nat.le_refl _) (Nat.le_of_ble_eq_true rfl) (Nat.le_of_ble_eq_true rfl) (Nat.le_of_ble_eq_true rfl)) (mlX12_96 rfl) iX12_isBelow sX12_isBelow h (z_kz (fun r1 σ2 h => ?_))
  refine Z_zif_eq (tgt := 13) dX12_bare__5 (by decide) (fun c => ?_) (fun c => ?_)
  · replace h := h.1 c
    exact Z_return dX12_bare__13 rfl rfl ⟨rfl, h⟩
  · replace h := h.2 c
    refine Z_aload_n 0 dX12_bare__8 rfl rfl ?_
    refine Z_iload_n 1 dX12_bare__9 rfl rfl ?_
    refine Z_invV (T := TX12) (N := 30) (ci := 12) (M' := mX12_turn) (ρ' := rX12_turn zN) (st := []) [(0, x1)] dX12_bare__10 rfl rfl la_211 (z_leN la_211 (by decide)) (by decide) rfl rfl (kX12_turn.cl (Nat.le_of_ble_eq_true rfl) (Nat.le_refl _) (Nat.le_refl _) (Nat.le_of_ble_eq_true rfl) (Nat.le_of_ble_eq_true rfl) (Nat.le_of_ble_eq_true rfl)) (mlX12_99 rfl) iX12_turn sX12_turn h (z_kv (fun σ4 h => ?_))
    exact Z_return dX12_bare__13 rfl rfl ⟨rfl, h⟩
theorem bk_X12_isAbove {X : ZS} {σ : ZM} {T : Bool → ZM → Prop} {x1 : Int} {x2 : Int} {x3 : Int} {x4 : Int} (h : ZC X (rX12_times zN) mX12_times [(2, 211), (0, 6), (0, x1), (0, x4)] zN σ (zQv (fun σ2 => ZC X (rX12_times zN) mX12_times [(2, 211), (0, 7), (0, x3), (0, x2)] zN σ2 (zQv (fun σ4 => ZC X (rX12_isLess zN) mX12_isLess [(2, 211), (0, 7), (0, 6)] zN σ4 (zQz (fun r5 σ6 => T r5 σ6))))))) : ZC X (rX12_isAbove zN) mX12_isAbove [(2, 211), (0, x1), (0, x2), (0, x3), (0, x4)] zN σ (zQz T) := by
  show Z X _ _ 0 [(2, 211), (0, x1), (0, x2), (0, x3), (0, x4)] [] _ σ _
  refine Z_aload_n 0 dX12_isAbove_0 rfl rfl ?_
  refine Z_bipush dX12_isAbove_1 (by decide) ?_
  refine Z_iload_n 1 dX12_isAbove_3 rfl rfl ?_
  refine Z_iload dX12_isAbove_4 rfl ?_
  refine Z_invV (T := TX12) (N := 30) (ci := 12) (M' := mX12_times) (ρ' := rX12_times zN) (st := []) [(0, 6), (0, x1), (0, x4)] dX12_isAbove_6 rfl rfl la_211 (z_leN la_211 (by decide)) (by decide) rfl rfl (kX12_times.cl (Nat.le_of_ble_eq_true rfl) (Nat.le_refl _) (Nat.le_refl _) (Nat.le_of_ble_eq_true rfl) (Nat.le_of_ble_eq_true rfl) (Nat.le_of_ble_eq_true rfl)) (mlX12_163 rfl) iX12_times sX12_times h (z_kv (fun σ2 h => ?_))
  refine Z_aload_n 0 dX12_isAbove_9 rfl rfl ?_
  refine Z_bipush dX12_isAbove_10 (by decide) ?_
  refine Z_iload_n 3 dX12_isAbove_12 rfl rfl ?_
  refine Z_iload_n 2 dX12_isAbove_13 rfl rfl ?_
  refine Z_invV (T := TX12) (N := 30) (ci := 12) (M' := mX12_times) (ρ' := rX12_times zN) (st := []) [(0, 7), (0, x3), (0, x2)] dX12_isAbove_14 rfl rfl la_211 (z_leN la_211 (by decide)) (by decide) rfl rfl (kX12_times.cl (Nat.le_of_ble_eq_true rfl) (Nat.le_refl _) (Nat.le_refl _) (Nat.le_of_ble_eq_true rfl) (Nat.le_of_ble_eq_true rfl) (Nat.le_of_ble_eq_true rfl)) (mlX12_163 rfl) iX12_times sX12_times h (z_kv (fun σ4 h => ?_))
  refine Z_aload_n 0 dX12_isAbove_17 rfl rfl ?_
  refine Z_bipush dX12_isAbove_18 (by decide) ?_
  refine Z_bipush dX12_isAbove_20 (by decide) ?_
  refine Z_invV (T := TX12) (N := 30) (ci := 12) (M' := mX12_isLess) (ρ' := rX12_isLess zN) (st := []) [(0, 7), (0, 6)] dX12_isAbove_22 rfl rfl la_211 (z_leN la_211 (by decide)) (by decide) rfl rfl (kX12_isLess.cl (Nat.le_of_ble_eq_true rfl) (Nat.le_refl _) (Nat.le_refl _) (Nat.le_of_ble_eq_true rfl) (Nat.le_of_ble_eq_true rfl) (Nat.le_of_ble_eq_true rfl)) (mlX12_128 rfl) iX12_isLess sX12_isLess h (z_kz (fun r5 σ6 h => ?_))
  exact Z_zreturn dX12_isAbove_25 rfl (zb_01 _) rfl ⟨rfl, r5, rfl, h⟩
theorem bk_X12_worst {X : ZS} {σ : ZM} {T : Int → ZM → Prop} {x1 : Int} (h : Z X (rX12_worst zN) mX12_worst 4 [(2, 211), (0, x1), (0, (-1)), (0, 0)] [] zN σ (zQi T)) : ZC X (rX12_worst zN) mX12_worst [(2, 211), (0, x1)] zN σ (zQi T) := by
  show Z X _ _ 0 [(2, 211), (0, x1), (9, 0), (9, 0)] [] _ σ _
  refine Z_iconst dX12_worst_0 ?_
  refine Z_istore_n (L' := [(2, 211), (0, x1), (0, (-1)), (9, 0)]) 2 dX12_worst_1 rfl (Nat.le_of_ble_eq_true rfl) rfl ?_
  refine Z_iconst dX12_worst_2 ?_
  refine Z_istore_n (L' := [(2, 211), (0, x1), (0, (-1)), (0, 0)]) 3 dX12_worst_3 rfl (Nat.le_of_ble_eq_true rfl) rfl ?_
  exact Z_few (z_few_k (z_few_k (z_few_k (z_few_k z_few_0)))) h
theorem bk_X12_worst_4 {X : ZS} {σ : ZM} {T : Int → ZM → Prop} {x1 : Int} {x2 : Int} {x3 : Int} (h : (r32 x3) ∧ (r32 (σ 211 4)) ∧ (((σ 211 4) ≤ x3) → T x2 σ) ∧ ((¬ ((σ 211 4) ≤ x3)) → ZC X (rX12_isOff zN) mX12_isOff [(2, 211), (0, x1), (0, x3)] zN σ (zQz (fun r3 σ4 => ((r3 = true) → ZC X (rX12_bare_ zN) mX12_bare_ [(2, 211), (0, 11)] zN σ4 (zQv (fun σ6 => ZC X (rX12_bare_ zN) mX12_bare_ [(2, 211), (0, 12)] zN σ6 (zQv (fun σ8 => (r32 x2) ∧ ((x2 = (-1)) → ZC X (rX12_copy zN) mX12_copy [(2, 211), (0, 13), (0, 11)] zN σ8 (zQv (fun σ11 => ZC X (rX12_copy zN) mX12_copy [(2, 211), (0, 14), (0, 12)] zN σ11 (zQv (fun σ13 => Z X (rX12_worst zN) mX12_worst 4 [(2, 211), (0, x1), (0, x3), (0, (x3 + 1))] [] zN σ13 (zQi T)))))) ∧ ((¬ x2 = (-1)) → ZC X (rX12_isAbove zN) mX12_isAbove [(2, 211), (0, 11), (0, 12), (0, 13), (0, 14)] zN σ8 (zQz (fun r14 σ15 => ((r14 = false) → Z X (rX12_worst zN) mX12_worst 4 [(2, 211), (0, x1), (0, x2), (0, (x3 + 1))] [] zN σ15 (zQi T)) ∧ ((r14 = true) → ZC X (rX12_copy zN) mX12_copy [(2, 211), (0, 13), (0, 11)] zN σ15 (zQv (fun σ17 => ZC X (rX12_copy zN) mX12_copy [(2, 211), (0, 14), (0, 12)] zN σ17 (zQv (fun σ19 => Z X (rX12_worst zN) mX12_worst 4 [(2, 211), (0, x1), (0, x3), (0, (x3 + 1))] [] zN σ19 (zQi T)))))))))))))) ∧ ((r3 = false) → T (-1) σ4))))) : Z X (rX12_worst zN) mX12_worst 4 [(2, 211), (0, x1), (0, x2), (0, x3)] [] zN σ (zQi T) := by
  refine Z_iload_n 3 dX12_worst_4 rfl rfl ?_
  refine Z_aload_n 0 dX12_worst_5 rfl rfl ?_
  refine Z_get (T := TX12) (N := 30) (ci := 12) (t := 0) 4 dX12_worst_6 la_211 (z_leN la_211 (by decide)) rfl (by decide) inX12 (by decide) (flX12_167 rfl) rfl ?_
  obtain ⟨g1, h⟩ := h
  obtain ⟨g2, h⟩ := h
  refine Z_icmp_ge (tgt := 79) dX12_worst_9 (by decide) g1 g2 (fun c => ?_) (fun c => ?_)
  · replace h := h.1 c
    refine Z_iload_n 2 dX12_worst_79 rfl rfl ?_
    exact Z_ireturn dX12_worst_80 rfl rfl ⟨rfl, h⟩
  · replace h := h.2 c
    refine Z_aload_n 0 dX12_worst_12 rfl rfl ?_
    refine Z_iload_n 1 dX12_worst_13 rfl rfl ?_
    refine Z_iload_n 3 dX12_worst_14 rfl rfl ?_
    refine Z_invV (T := TX12) (N := 30) (ci := 12) (M' := mX12_isOff) (ρ' := rX12_isOff zN) (st := []) [(0, x1), (0, x3)] dX12_worst_15 rfl rfl la_211 (z_leN la_211 (by decide)) (by decide) rfl rfl (kX12_isOff.cl (Nat.le_of_ble_eq_true rfl) (Nat.le_refl _) (Nat.le_refl _) (Nat.le_of_ble_eq_true rfl) (Nat.le_of_ble_eq_true rfl) (Nat.le_of_ble_eq_true rfl)) (mlX12_257 rfl) iX12_isOff sX12_isOff h (z_kz (fun r3 σ4 h => ?_))
    refine Z_zif_ne (tgt := 23) dX12_worst_18 (by decide) (fun c => ?_) (fun c => ?_)
    · replace h := h.1 c
      refine Z_aload_n 0 dX12_worst_23 rfl rfl ?_
      refine Z_bipush dX12_worst_24 (by decide) ?_
      refine Z_invV (T := TX12) (N := 30) (ci := 12) (M' := mX12_bare_) (ρ' := rX12_bare_ zN) (st := []) [(0, 11)] dX12_worst_26 rfl rfl la_211 (z_leN la_211 (by decide)) (by decide) rfl rfl (kX12_bare_.cl (Nat.le_of_ble_eq_true rfl) (Nat.le_refl _) (Nat.le_refl _) (Nat.le_of_ble_eq_true rfl) (Nat.le_of_ble_eq_true rfl) (Nat.le_of_ble_eq_true rfl)) (mlX12_260 rfl) iX12_bare_ sX12_bare_ h (z_kv (fun σ6 h => ?_))
      refine Z_aload_n 0 dX12_worst_29 rfl rfl ?_
      refine Z_bipush dX12_worst_30 (by decide) ?_
      refine Z_invV (T := TX12) (N := 30) (ci := 12) (M' := mX12_bare_) (ρ' := rX12_bare_ zN) (st := []) [(0, 12)] dX12_worst_32 rfl rfl la_211 (z_leN la_211 (by decide)) (by decide) rfl rfl (kX12_bare_.cl (Nat.le_of_ble_eq_true rfl) (Nat.le_refl _) (Nat.le_refl _) (Nat.le_of_ble_eq_true rfl) (Nat.le_of_ble_eq_true rfl) (Nat.le_of_ble_eq_true rfl)) (mlX12_260 rfl) iX12_bare_ sX12_bare_ h (z_kv (fun σ8 h => ?_))
      refine Z_iload_n 2 dX12_worst_35 rfl rfl ?_
      refine Z_iconst dX12_worst_36 ?_
      obtain ⟨g9, h⟩ := h
      refine Z_icmp_eq (tgt := 55) dX12_worst_37 (by decide) g9 ⟨by decide, by decide⟩ (fun c => ?_) (fun c => ?_)
      · replace h := h.1 c
        refine Z_iload_n 3 dX12_worst_55 rfl rfl ?_
        refine Z_istore_n (L' := [(2, 211), (0, x1), (0, x3), (0, x3)]) 2 dX12_worst_56 rfl (Nat.le_of_ble_eq_true rfl) rfl ?_
        refine Z_aload_n 0 dX12_worst_57 rfl rfl ?_
        refine Z_bipush dX12_worst_58 (by decide) ?_
        refine Z_bipush dX12_worst_60 (by decide) ?_
        refine Z_invV (T := TX12) (N := 30) (ci := 12) (M' := mX12_copy) (ρ' := rX12_copy zN) (st := []) [(0, 13), (0, 11)] dX12_worst_62 rfl rfl la_211 (z_leN la_211 (by decide)) (by decide) rfl rfl (kX12_copy.cl (Nat.le_of_ble_eq_true rfl) (Nat.le_refl _) (Nat.le_refl _) (Nat.le_of_ble_eq_true rfl) (Nat.le_of_ble_eq_true rfl) (Nat.le_of_ble_eq_true rfl)) (mlX12_118 rfl) iX12_copy sX12_copy h (z_kv (fun σ11 h => ?_))
        refine Z_aload_n 0 dX12_worst_65 rfl rfl ?_
        refine Z_bipush dX12_worst_66 (by decide) ?_
        refine Z_bipush dX12_worst_68 (by decide) ?_
        refine Z_invV (T := TX12) (N := 30) (ci := 12) (M' := mX12_copy) (ρ' := rX12_copy zN) (st := []) [(0, 14), (0, 12)] dX12_worst_70 rfl rfl la_211 (z_leN la_211 (by decide)) (by decide) rfl rfl (kX12_copy.cl (Nat.le_of_ble_eq_true rfl) (Nat.le_refl _) (Nat.le_refl _) (Nat.le_of_ble_eq_true rfl) (Nat.le_of_ble_eq_true rfl) (Nat.le_of_ble_eq_true rfl)) (mlX12_118 rfl) iX12_copy sX12_copy h (z_kv (fun σ13 h => ?_))
        refine Z_iinc (L' := [(2, 211), (0, x1), (0, x3), (0, (x3 + 1))]) dX12_worst_73 rfl (Nat.le_of_ble_eq_true rfl) rfl ?_
        refine Z_goto (tgt := 4) dX12_worst_76 (by decide) ?_
        exact Z_few (z_few_k (z_few_k (z_few_k (z_few_k z_few_0)))) h
      · replace h := h.2 c
        refine Z_aload_n 0 dX12_worst_40 rfl rfl ?_
        refine Z_bipush dX12_worst_41 (by decide) ?_
        refine Z_bipush dX12_worst_43 (by decide) ?_
        refine Z_bipush dX12_worst_45 (by decide) ?_
        refine Z_bipush dX12_worst_47 (by decide) ?_
        refine Z_invV (T := TX12) (N := 30) (ci := 12) (M' := mX12_isAbove) (ρ' := rX12_isAbove zN) (st := []) [(0, 11), (0, 12), (0, 13), (0, 14)] dX12_worst_49 rfl rfl la_211 (z_leN la_211 (by decide)) (by decide) rfl rfl (kX12_isAbove.cl (Nat.le_of_ble_eq_true rfl) (Nat.le_refl _) (Nat.le_refl _) (Nat.le_of_ble_eq_true rfl) (Nat.le_of_ble_eq_true rfl) (Nat.le_of_ble_eq_true rfl)) (mlX12_262 rfl) iX12_isAbove sX12_isAbove h (z_kz (fun r14 σ15 h => ?_))
        refine Z_zif_eq (tgt := 73) dX12_worst_52 (by decide) (fun c => ?_) (fun c => ?_)
        · replace h := h.1 c
          refine Z_iinc (L' := [(2, 211), (0, x1), (0, x2), (0, (x3 + 1))]) dX12_worst_73 rfl (Nat.le_of_ble_eq_true rfl) rfl ?_
          refine Z_goto (tgt := 4) dX12_worst_76 (by decide) ?_
          exact Z_few (z_few_k (z_few_k (z_few_k (z_few_k z_few_0)))) h
        · replace h := h.2 c
          refine Z_iload_n 3 dX12_worst_55 rfl rfl ?_
          refine Z_istore_n (L' := [(2, 211), (0, x1), (0, x3), (0, x3)]) 2 dX12_worst_56 rfl (Nat.le_of_ble_eq_true rfl) rfl ?_
          refine Z_aload_n 0 dX12_worst_57 rfl rfl ?_
          refine Z_bipush dX12_worst_58 (by decide) ?_
          refine Z_bipush dX12_worst_60 (by decide) ?_
          refine Z_invV (T := TX12) (N := 30) (ci := 12) (M' := mX12_copy) (ρ' := rX12_copy zN) (st := []) [(0, 13), (0, 11)] dX12_worst_62 rfl rfl la_211 (z_leN la_211 (by decide)) (by decide) rfl rfl (kX12_copy.cl (Nat.le_of_ble_eq_true rfl) (Nat.le_refl _) (Nat.le_refl _) (Nat.le_of_ble_eq_true rfl) (Nat.le_of_ble_eq_true rfl) (Nat.le_of_ble_eq_true rfl)) (mlX12_118 rfl) iX12_copy sX12_copy h (z_kv (fun σ17 h => ?_))
          refine Z_aload_n 0 dX12_worst_65 rfl rfl ?_
          refine Z_bipush dX12_worst_66 (by decide) ?_
          refine Z_bipush dX12_worst_68 (by decide) ?_
          refine Z_invV (T := TX12) (N := 30) (ci := 12) (M' := mX12_copy) (ρ' := rX12_copy zN) (st := []) [(0, 14), (0, 12)] dX12_worst_70 rfl rfl la_211 (z_leN la_211 (by decide)) (by decide) rfl rfl (kX12_copy.cl (Nat.le_of_ble_eq_true rfl) (Nat.le_refl _) (Nat.le_refl _) (Nat.le_of_ble_eq_true rfl) (Nat.le_of_ble_eq_true rfl) (Nat.le_of_ble_eq_true rfl)) (mlX12_118 rfl) iX12_copy sX12_copy h (z_kv (fun σ19 h => ?_))
          refine Z_iinc (L' := [(2, 211), (0, x1), (0, x3), (0, (x3 + 1))]) dX12_worst_73 rfl (Nat.le_of_ble_eq_true rfl) rfl ?_
          refine Z_goto (tgt := 4) dX12_worst_76 (by decide) ?_
          exact Z_few (z_few_k (z_few_k (z_few_k (z_few_k z_few_0)))) h
    · replace h := h.2 c
      refine Z_iconst dX12_worst_21 ?_
      exact Z_ireturn dX12_worst_22 rfl rfl ⟨rfl, h⟩
theorem bk_X12_worst_ {X : ZS} {σ : ZM} {T : Int → ZM → Prop}  (h : (r32 (σ 211 11)) ∧ ((¬ (σ 211 11) = (-1)) → ZC X (rX12_worst zN) mX12_worst [(2, 211), (0, (σ 211 11))] zN σ (zQi (fun r2 σ3 => T r2 σ3))) ∧ (((σ 211 11) = (-1)) → T (-1) σ)) : ZC X (rX12_worst_ zN) mX12_worst_ [(2, 211)] zN σ (zQi T) := by
  show Z X _ _ 0 [(2, 211)] [] _ σ _
  refine Z_aload_n 0 dX12_worst__0 rfl rfl ?_
  refine Z_get (T := TX12) (N := 30) (ci := 12) (t := 0) 11 dX12_worst__1 la_211 (z_leN la_211 (by decide)) rfl (by decide) inX12 (by decide) (flX12_38 rfl) rfl ?_
  refine Z_iconst dX12_worst__4 ?_
  obtain ⟨g1, h⟩ := h
  refine Z_icmp_ne (tgt := 12) dX12_worst__5 (by decide) g1 ⟨by decide, by decide⟩ (fun c => ?_) (fun c => ?_)
  · replace h := h.1 c
    refine Z_aload_n 0 dX12_worst__12 rfl rfl ?_
    refine Z_aload_n 0 dX12_worst__13 rfl rfl ?_
    refine Z_get (T := TX12) (N := 30) (ci := 12) (t := 0) 11 dX12_worst__14 la_211 (z_leN la_211 (by decide)) rfl (by decide) inX12 (by decide) (flX12_38 rfl) rfl ?_
    refine Z_invV (T := TX12) (N := 30) (ci := 12) (M' := mX12_worst) (ρ' := rX12_worst zN) (st := []) [(0, (σ 211 11))] dX12_worst__17 rfl rfl la_211 (z_leN la_211 (by decide)) (by decide) rfl rfl (kX12_worst.cl (Nat.le_of_ble_eq_true rfl) (Nat.le_refl _) (Nat.le_refl _) (Nat.le_of_ble_eq_true rfl) (Nat.le_of_ble_eq_true rfl) (Nat.le_of_ble_eq_true rfl)) (mlX12_266 rfl) iX12_worst sX12_worst h (z_ki (fun r2 σ3 h => ?_))
    exact Z_ireturn dX12_worst__20 rfl rfl ⟨rfl, h⟩
  · replace h := h.2 c
    refine Z_iconst dX12_worst__8 ?_
    refine Z_goto (tgt := 20) dX12_worst__9 (by decide) ?_
    exact Z_ireturn dX12_worst__20 rfl rfl ⟨rfl, h⟩
theorem bk_X12_best {X : ZS} {σ : ZM} {T : Int → ZM → Prop}  (h : Z X (rX12_best zN) mX12_best 4 [(2, 211), (0, (-1)), (0, 0)] [] zN σ (zQi T)) : ZC X (rX12_best zN) mX12_best [(2, 211)] zN σ (zQi T) := by
  show Z X _ _ 0 [(2, 211), (9, 0), (9, 0)] [] _ σ _
  refine Z_iconst dX12_best_0 ?_
  refine Z_istore_n (L' := [(2, 211), (0, (-1)), (9, 0)]) 1 dX12_best_1 rfl (Nat.le_of_ble_eq_true rfl) rfl ?_
  refine Z_iconst dX12_best_2 ?_
  refine Z_istore_n (L' := [(2, 211), (0, (-1)), (0, 0)]) 2 dX12_best_3 rfl (Nat.le_of_ble_eq_true rfl) rfl ?_
  exact Z_few (z_few_k (z_few_k (z_few_k z_few_0))) h
theorem bk_X12_best_4 {X : ZS} {σ : ZM} {T : Int → ZM → Prop} {x1 : Int} {x2 : Int} (h : (r32 x2) ∧ (r32 (σ 211 9)) ∧ (((σ 211 9) ≤ x2) → T x1 σ) ∧ ((¬ ((σ 211 9) ≤ x2)) → ZC X (rX12_worst zN) mX12_worst [(2, 211), (0, x2)] zN σ (zQi (fun r3 σ4 => (r32 r3) ∧ ((¬ r3 = (-1)) → (r32 x1) ∧ ((x1 = (-1)) → ZC X (rX12_copy zN) mX12_copy [(2, 211), (0, 15), (0, 13)] zN σ4 (zQv (fun σ8 => ZC X (rX12_copy zN) mX12_copy [(2, 211), (0, 16), (0, 14)] zN σ8 (zQv (fun σ10 => Z X (rX12_best zN) mX12_best 4 [(2, 211), (0, x2), (0, (x2 + 1))] [] zN σ10 (zQi T)))))) ∧ ((¬ x1 = (-1)) → ZC X (rX12_isAbove zN) mX12_isAbove [(2, 211), (0, 15), (0, 16), (0, 13), (0, 14)] zN σ4 (zQz (fun r11 σ12 => ((r11 = false) → Z X (rX12_best zN) mX12_best 4 [(2, 211), (0, x1), (0, (x2 + 1))] [] zN σ12 (zQi T)) ∧ ((r11 = true) → ZC X (rX12_copy zN) mX12_copy [(2, 211), (0, 15), (0, 13)] zN σ12 (zQv (fun σ14 => ZC X (rX12_copy zN) mX12_copy [(2, 211), (0, 16), (0, 14)] zN σ14 (zQv (fun σ16 => Z X (rX12_best zN) mX12_best 4 [(2, 211), (0, x2), (0, (x2 + 1))] [] zN σ16 (zQi T)))))))))) ∧ ((r3 = (-1)) → Z X (rX12_best zN) mX12_best 4 [(2, 211), (0, x1), (0, (x2 + 1))] [] zN σ4 (zQi T)))))) : Z X (rX12_best zN) mX12_best 4 [(2, 211), (0, x1), (0, x2)] [] zN σ (zQi T) := by
  refine Z_iload_n 2 dX12_best_4 rfl rfl ?_
  refine Z_aload_n 0 dX12_best_5 rfl rfl ?_
  refine Z_get (T := TX12) (N := 30) (ci := 12) (t := 0) 9 dX12_best_6 la_211 (z_leN la_211 (by decide)) rfl (by decide) inX12 (by decide) (flX12_193 rfl) rfl ?_
  obtain ⟨g1, h⟩ := h
  obtain ⟨g2, h⟩ := h
  refine Z_icmp_ge (tgt := 68) dX12_best_9 (by decide) g1 g2 (fun c => ?_) (fun c => ?_)
  · replace h := h.1 c
    refine Z_iload_n 1 dX12_best_68 rfl rfl ?_
    exact Z_ireturn dX12_best_69 rfl rfl ⟨rfl, h⟩
  · replace h := h.2 c
    refine Z_aload_n 0 dX12_best_12 rfl rfl ?_
    refine Z_iload_n 2 dX12_best_13 rfl rfl ?_
    refine Z_invV (T := TX12) (N := 30) (ci := 12) (M' := mX12_worst) (ρ' := rX12_worst zN) (st := []) [(0, x2)] dX12_best_14 rfl rfl la_211 (z_leN la_211 (by decide)) (by decide) rfl rfl (kX12_worst.cl (Nat.le_of_ble_eq_true rfl) (Nat.le_refl _) (Nat.le_refl _) (Nat.le_of_ble_eq_true rfl) (Nat.le_of_ble_eq_true rfl) (Nat.le_of_ble_eq_true rfl)) (mlX12_266 rfl) iX12_worst sX12_worst h (z_ki (fun r3 σ4 h => ?_))
    refine Z_iconst dX12_best_17 ?_
    obtain ⟨g5, h⟩ := h
    refine Z_icmp_ne (tgt := 24) dX12_best_18 (by decide) g5 ⟨by decide, by decide⟩ (fun c => ?_) (fun c => ?_)
    · replace h := h.1 c
      refine Z_iload_n 1 dX12_best_24 rfl rfl ?_
      refine Z_iconst dX12_best_25 ?_
      obtain ⟨g6, h⟩ := h
      refine Z_icmp_eq (tgt := 44) dX12_best_26 (by decide) g6 ⟨by decide, by decide⟩ (fun c => ?_) (fun c => ?_)
      · replace h := h.1 c
        refine Z_iload_n 2 dX12_best_44 rfl rfl ?_
        refine Z_istore_n (L' := [(2, 211), (0, x2), (0, x2)]) 1 dX12_best_45 rfl (Nat.le_of_ble_eq_true rfl) rfl ?_
        refine Z_aload_n 0 dX12_best_46 rfl rfl ?_
        refine Z_bipush dX12_best_47 (by decide) ?_
        refine Z_bipush dX12_best_49 (by decide) ?_
        refine Z_invV (T := TX12) (N := 30) (ci := 12) (M' := mX12_copy) (ρ' := rX12_copy zN) (st := []) [(0, 15), (0, 13)] dX12_best_51 rfl rfl la_211 (z_leN la_211 (by decide)) (by decide) rfl rfl (kX12_copy.cl (Nat.le_of_ble_eq_true rfl) (Nat.le_refl _) (Nat.le_refl _) (Nat.le_of_ble_eq_true rfl) (Nat.le_of_ble_eq_true rfl) (Nat.le_of_ble_eq_true rfl)) (mlX12_118 rfl) iX12_copy sX12_copy h (z_kv (fun σ8 h => ?_))
        refine Z_aload_n 0 dX12_best_54 rfl rfl ?_
        refine Z_bipush dX12_best_55 (by decide) ?_
        refine Z_bipush dX12_best_57 (by decide) ?_
        refine Z_invV (T := TX12) (N := 30) (ci := 12) (M' := mX12_copy) (ρ' := rX12_copy zN) (st := []) [(0, 16), (0, 14)] dX12_best_59 rfl rfl la_211 (z_leN la_211 (by decide)) (by decide) rfl rfl (kX12_copy.cl (Nat.le_of_ble_eq_true rfl) (Nat.le_refl _) (Nat.le_refl _) (Nat.le_of_ble_eq_true rfl) (Nat.le_of_ble_eq_true rfl) (Nat.le_of_ble_eq_true rfl)) (mlX12_118 rfl) iX12_copy sX12_copy h (z_kv (fun σ10 h => ?_))
        refine Z_iinc (L' := [(2, 211), (0, x2), (0, (x2 + 1))]) dX12_best_62 rfl (Nat.le_of_ble_eq_true rfl) rfl ?_
        refine Z_goto (tgt := 4) dX12_best_65 (by decide) ?_
        exact Z_few (z_few_k (z_few_k (z_few_k z_few_0))) h
      · replace h := h.2 c
        refine Z_aload_n 0 dX12_best_29 rfl rfl ?_
        refine Z_bipush dX12_best_30 (by decide) ?_
        refine Z_bipush dX12_best_32 (by decide) ?_
        refine Z_bipush dX12_best_34 (by decide) ?_
        refine Z_bipush dX12_best_36 (by decide) ?_
        refine Z_invV (T := TX12) (N := 30) (ci := 12) (M' := mX12_isAbove) (ρ' := rX12_isAbove zN) (st := []) [(0, 15), (0, 16), (0, 13), (0, 14)] dX12_best_38 rfl rfl la_211 (z_leN la_211 (by decide)) (by decide) rfl rfl (kX12_isAbove.cl (Nat.le_of_ble_eq_true rfl) (Nat.le_refl _) (Nat.le_refl _) (Nat.le_of_ble_eq_true rfl) (Nat.le_of_ble_eq_true rfl) (Nat.le_of_ble_eq_true rfl)) (mlX12_262 rfl) iX12_isAbove sX12_isAbove h (z_kz (fun r11 σ12 h => ?_))
        refine Z_zif_eq (tgt := 62) dX12_best_41 (by decide) (fun c => ?_) (fun c => ?_)
        · replace h := h.1 c
          refine Z_iinc (L' := [(2, 211), (0, x1), (0, (x2 + 1))]) dX12_best_62 rfl (Nat.le_of_ble_eq_true rfl) rfl ?_
          refine Z_goto (tgt := 4) dX12_best_65 (by decide) ?_
          exact Z_few (z_few_k (z_few_k (z_few_k z_few_0))) h
        · replace h := h.2 c
          refine Z_iload_n 2 dX12_best_44 rfl rfl ?_
          refine Z_istore_n (L' := [(2, 211), (0, x2), (0, x2)]) 1 dX12_best_45 rfl (Nat.le_of_ble_eq_true rfl) rfl ?_
          refine Z_aload_n 0 dX12_best_46 rfl rfl ?_
          refine Z_bipush dX12_best_47 (by decide) ?_
          refine Z_bipush dX12_best_49 (by decide) ?_
          refine Z_invV (T := TX12) (N := 30) (ci := 12) (M' := mX12_copy) (ρ' := rX12_copy zN) (st := []) [(0, 15), (0, 13)] dX12_best_51 rfl rfl la_211 (z_leN la_211 (by decide)) (by decide) rfl rfl (kX12_copy.cl (Nat.le_of_ble_eq_true rfl) (Nat.le_refl _) (Nat.le_refl _) (Nat.le_of_ble_eq_true rfl) (Nat.le_of_ble_eq_true rfl) (Nat.le_of_ble_eq_true rfl)) (mlX12_118 rfl) iX12_copy sX12_copy h (z_kv (fun σ14 h => ?_))
          refine Z_aload_n 0 dX12_best_54 rfl rfl ?_
          refine Z_bipush dX12_best_55 (by decide) ?_
          refine Z_bipush dX12_best_57 (by decide) ?_
          refine Z_invV (T := TX12) (N := 30) (ci := 12) (M' := mX12_copy) (ρ' := rX12_copy zN) (st := []) [(0, 16), (0, 14)] dX12_best_59 rfl rfl la_211 (z_leN la_211 (by decide)) (by decide) rfl rfl (kX12_copy.cl (Nat.le_of_ble_eq_true rfl) (Nat.le_refl _) (Nat.le_refl _) (Nat.le_of_ble_eq_true rfl) (Nat.le_of_ble_eq_true rfl) (Nat.le_of_ble_eq_true rfl)) (mlX12_118 rfl) iX12_copy sX12_copy h (z_kv (fun σ16 h => ?_))
          refine Z_iinc (L' := [(2, 211), (0, x2), (0, (x2 + 1))]) dX12_best_62 rfl (Nat.le_of_ble_eq_true rfl) rfl ?_
          refine Z_goto (tgt := 4) dX12_best_65 (by decide) ?_
          exact Z_few (z_few_k (z_few_k (z_few_k z_few_0))) h
    · replace h := h.2 c
      refine Z_goto (tgt := 62) dX12_best_21 (by decide) ?_
      refine Z_iinc (L' := [(2, 211), (0, x1), (0, (x2 + 1))]) dX12_best_62 rfl (Nat.le_of_ble_eq_true rfl) rfl ?_
      refine Z_goto (tgt := 4) dX12_best_65 (by decide) ?_
      exact Z_few (z_few_k (z_few_k (z_few_k z_few_0))) h
theorem bk_X12_minor {X : ZS} {σ : ZM} {T : Int → ZM → Prop} {x1 : Int} {x2 : Int} (h : Z X (rX12_minor zN) mX12_minor 15 [(2, 211), (0, x1), (0, x2), (0, ((σ 211 4) - 1)), (0, 0), (9, 0), (9, 0)] [] zN (z_up σ 211 17 0) (zQi T)) : ZC X (rX12_minor zN) mX12_minor [(2, 211), (0, x1), (0, x2)] zN σ (zQi T) := by
  show Z X _ _ 0 [(2, 211), (0, x1), (0, x2), (9, 0), (9, 0), (9, 0), (9, 0)] [] _ σ _
  refine Z_aload_n 0 dX12_minor_0 rfl rfl ?_
  refine Z_get (T := TX12) (N := 30) (ci := 12) (t := 0) 4 dX12_minor_1 la_211 (z_leN la_211 (by decide)) rfl (by decide) inX12 (by decide) (flX12_167 rfl) rfl ?_
  refine Z_iconst dX12_minor_4 ?_
  refine Z_isub dX12_minor_5 ?_
  refine Z_istore_n (L' := [(2, 211), (0, x1), (0, x2), (0, ((σ 211 4) - 1)), (9, 0), (9, 0), (9, 0)]) 3 dX12_minor_6 rfl (Nat.le_of_ble_eq_true rfl) rfl ?_
  refine Z_aload_n 0 dX12_minor_7 rfl rfl ?_
  refine Z_iconst dX12_minor_8 ?_
  refine Z_put (T := TX12) (N := 30) (ci := 12) (t := 0) tyX12 17 dX12_minor_9 la_211 (z_leN la_211 (by decide)) rfl (by decide) inX12 (by decide) (plX12_150 rfl) rfl tyX12_ok nmX12 rfl (z_nf_i _) ?_
  refine Z_iconst dX12_minor_12 ?_
  refine Z_istore (L' := [(2, 211), (0, x1), (0, x2), (0, ((σ 211 4) - 1)), (0, 0), (9, 0), (9, 0)]) dX12_minor_13 (Nat.le_of_ble_eq_true rfl) rfl ?_
  exact Z_few (z_few_k (z_few_k (z_few_k (z_few_k (z_few_k (z_few_k (z_few_k z_few_0))))))) h
theorem bk_X12_minor_15 {X : ZS} {σ : ZM} {T : Int → ZM → Prop} {x1 : Int} {x2 : Int} {x3 : Int} {x4 : Int} (h : (r32 x4) ∧ (r32 x3) ∧ ((x3 ≤ x4) → ZC X (rX12_clear zN) mX12_clear [(2, 211), (0, (σ 211 17))] zN (z_up σ 211 18 (σ 211 17)) (zQv (fun σ4 => (r32 (σ4 211 19)) ∧ (r32 (σ4 211 17)) ∧ (((σ4 211 17) ≤ (σ4 211 19)) → (r32 (σ4 211 20)) ∧ (r32 (Int.tmod (σ4 211 20) 2)) ∧ ((¬ (Int.tmod (σ4 211 20) 2) = 0) → ZC X (rX12_sign zN) mX12_sign [(2, 211), (0, 8)] zN σ4 (zQi (fun r9 σ10 => T (-r9) σ10))) ∧ (((Int.tmod (σ4 211 20) 2) = 0) → ZC X (rX12_sign zN) mX12_sign [(2, 211), (0, 8)] zN σ4 (zQi (fun r11 σ12 => T r11 σ12)))) ∧ ((¬ ((σ4 211 17) ≤ (σ4 211 19))) → T 0 σ4)))) ∧ ((¬ (x3 ≤ x4)) → (0 ≤ x4) ∧ (x4 < 32) ∧ (r32 x2) ∧ (r32 ((x2 / 2 ^ x4.toNat) % 2 ^ 1)) ∧ ((¬ ((x2 / 2 ^ x4.toNat) % 2 ^ 1) = 0) → Z X (rX12_minor zN) mX12_minor 39 [(2, 211), (0, x1), (0, x2), (0, x3), (0, x4), (0, 0), (0, 0)] [] zN σ (zQi T)) ∧ ((((x2 / 2 ^ x4.toNat) % 2 ^ 1) = 0) → Z X (rX12_minor zN) mX12_minor 15 [(2, 211), (0, x1), (0, x2), (0, x3), (0, (x4 + 1)), (9, 0), (9, 0)] [] zN σ (zQi T)))) : Z X (rX12_minor zN) mX12_minor 15 [(2, 211), (0, x1), (0, x2), (0, x3), (0, x4), (9, 0), (9, 0)] [] zN σ (zQi T) := by
  refine Z_iload dX12_minor_15 rfl ?_
  refine Z_iload_n 3 dX12_minor_17 rfl rfl ?_
  obtain ⟨g1, h⟩ := h
  obtain ⟨g2, h⟩ := h
  refine Z_icmp_ge (tgt := 122) dX12_minor_18 (by decide) g1 g2 (fun c => ?_) (fun c => ?_)
  · replace h := h.1 c
    refine Z_aload_n 0 dX12_minor_122 rfl rfl ?_
    refine Z_aload_n 0 dX12_minor_123 rfl rfl ?_
    refine Z_get (T := TX12) (N := 30) (ci := 12) (t := 0) 17 dX12_minor_124 la_211 (z_leN la_211 (by decide)) rfl (by decide) inX12 (by decide) (flX12_150 rfl) rfl ?_
    refine Z_put (T := TX12) (N := 30) (ci := 12) (t := 0) tyX12 18 dX12_minor_127 la_211 (z_leN la_211 (by decide)) rfl (by decide) inX12 (by decide) (plX12_157 rfl) rfl tyX12_ok nmX12 rfl (z_nf_i _) ?_
    refine Z_aload_n 0 dX12_minor_130 rfl rfl ?_
    refine Z_aload_n 0 dX12_minor_131 rfl rfl ?_
    refine Z_get (T := TX12) (N := 30) (ci := 12) (t := 0) 17 dX12_minor_132 la_211 (z_leN la_211 (by decide)) rfl (by decide) inX12 (by decide) (flX12_150 rfl) rfl ?_
    refine Z_top (z_up_ne _ (Or.inr (by decide))) ?_
    refine Z_invV (T := TX12) (N := 30) (ci := 12) (M' := mX12_clear) (ρ' := rX12_clear zN) (st := []) [(0, (σ 211 17))] dX12_minor_135 rfl rfl la_211 (z_leN la_211 (by decide)) (by decide) rfl rfl (kX12_clear.cl (Nat.le_of_ble_eq_true rfl) (Nat.le_refl _) (Nat.le_refl _) (Nat.le_of_ble_eq_true rfl) (Nat.le_of_ble_eq_true rfl) (Nat.le_of_ble_eq_true rfl)) (mlX12_227 rfl) iX12_clear sX12_clear h (z_kv (fun σ4 h => ?_))
    refine Z_aload_n 0 dX12_minor_138 rfl rfl ?_
    refine Z_get (T := TX12) (N := 30) (ci := 12) (t := 0) 19 dX12_minor_139 la_211 (z_leN la_211 (by decide)) rfl (by decide) inX12 (by decide) (flX12_144 rfl) rfl ?_
    refine Z_aload_n 0 dX12_minor_142 rfl rfl ?_
    refine Z_get (T := TX12) (N := 30) (ci := 12) (t := 0) 17 dX12_minor_143 la_211 (z_leN la_211 (by decide)) rfl (by decide) inX12 (by decide) (flX12_150 rfl) rfl ?_
    obtain ⟨g5, h⟩ := h
    obtain ⟨g6, h⟩ := h
    refine Z_icmp_ge (tgt := 153) dX12_minor_146 (by decide) g5 g6 (fun c => ?_) (fun c => ?_)
    · replace h := h.1 c
      refine Z_aload_n 0 dX12_minor_153 rfl rfl ?_
      refine Z_get (T := TX12) (N := 30) (ci := 12) (t := 0) 20 dX12_minor_154 la_211 (z_leN la_211 (by decide)) rfl (by decide) inX12 (by decide) (flX12_147 rfl) rfl ?_
      refine Z_iconst dX12_minor_157 ?_
      obtain ⟨g7, h⟩ := h
      refine Z_irem dX12_minor_158 g7 ⟨by decide, by decide⟩ (by decide) ?_
      obtain ⟨g8, h⟩ := h
      refine Z_if_ne (tgt := 171) dX12_minor_159 (by decide) g8 (fun c => ?_) (fun c => ?_)
      · replace h := h.1 c
        refine Z_aload_n 0 dX12_minor_171 rfl rfl ?_
        refine Z_bipush dX12_minor_172 (by decide) ?_
        refine Z_invV (T := TX12) (N := 30) (ci := 12) (M' := mX12_sign) (ρ' := rX12_sign zN) (st := []) [(0, 8)] dX12_minor_174 rfl rfl la_211 (z_leN la_211 (by decide)) (by decide) rfl rfl (kX12_sign.cl (Nat.le_of_ble_eq_true rfl) (Nat.le_refl _) (Nat.le_refl _) (Nat.le_of_ble_eq_true rfl) (Nat.le_of_ble_eq_true rfl) (Nat.le_of_ble_eq_true rfl)) (mlX12_269 rfl) iX12_sign sX12_sign h (z_ki (fun r9 σ10 h => ?_))
        refine Z_ineg dX12_minor_177 ?_
        exact Z_ireturn dX12_minor_178 rfl rfl ⟨rfl, h⟩
      · replace h := h.2 c
        refine Z_aload_n 0 dX12_minor_162 rfl rfl ?_
        refine Z_bipush dX12_minor_163 (by decide) ?_
        refine Z_invV (T := TX12) (N := 30) (ci := 12) (M' := mX12_sign) (ρ' := rX12_sign zN) (st := []) [(0, 8)] dX12_minor_165 rfl rfl la_211 (z_leN la_211 (by decide)) (by decide) rfl rfl (kX12_sign.cl (Nat.le_of_ble_eq_true rfl) (Nat.le_refl _) (Nat.le_refl _) (Nat.le_of_ble_eq_true rfl) (Nat.le_of_ble_eq_true rfl) (Nat.le_of_ble_eq_true rfl)) (mlX12_269 rfl) iX12_sign sX12_sign h (z_ki (fun r11 σ12 h => ?_))
        refine Z_goto (tgt := 178) dX12_minor_168 (by decide) ?_
        exact Z_ireturn dX12_minor_178 rfl rfl ⟨rfl, h⟩
    · replace h := h.2 c
      refine Z_iconst dX12_minor_149 ?_
      refine Z_goto (tgt := 178) dX12_minor_150 (by decide) ?_
      exact Z_ireturn dX12_minor_178 rfl rfl ⟨rfl, h⟩
  · replace h := h.2 c
    refine Z_iload_n 2 dX12_minor_21 rfl rfl ?_
    refine Z_iload dX12_minor_22 rfl ?_
    obtain ⟨g13, h⟩ := h
    obtain ⟨g14, h⟩ := h
    obtain ⟨g15, h⟩ := h
    refine Z_ishr dX12_minor_24 g13 g14 g15 ?_
    refine Z_iconst dX12_minor_25 ?_
    refine Z_iand 1 dX12_minor_26 (by decide) (by decide) ?_
    obtain ⟨g16, h⟩ := h
    refine Z_if_ne (tgt := 33) dX12_minor_27 (by decide) g16 (fun c => ?_) (fun c => ?_)
    · replace h := h.1 c
      refine Z_iconst dX12_minor_33 ?_
      refine Z_istore (L' := [(2, 211), (0, x1), (0, x2), (0, x3), (0, x4), (0, 0), (9, 0)]) dX12_minor_34 (Nat.le_of_ble_eq_true rfl) rfl ?_
      refine Z_iconst dX12_minor_36 ?_
      refine Z_istore (L' := [(2, 211), (0, x1), (0, x2), (0, x3), (0, x4), (0, 0), (0, 0)]) dX12_minor_37 (Nat.le_of_ble_eq_true rfl) rfl ?_
      exact Z_few (z_few_k (z_few_k (z_few_k (z_few_k (z_few_k (z_few_k (z_few_k z_few_0))))))) h
    · replace h := h.2 c
      refine Z_goto (tgt := 116) dX12_minor_30 (by decide) ?_
      refine Z_iinc (L' := [(2, 211), (0, x1), (0, x2), (0, x3), (0, (x4 + 1)), (9, 0), (9, 0)]) dX12_minor_116 rfl (Nat.le_of_ble_eq_true rfl) rfl ?_
      refine Z_goto (tgt := 15) dX12_minor_119 (by decide) ?_
      exact Z_few (z_few_k (z_few_k (z_few_k (z_few_k (z_few_k (z_few_k (z_few_k z_few_0))))))) h
theorem bk_X12_minor_39 {X : ZS} {σ : ZM} {T : Int → ZM → Prop} {x1 : Int} {x2 : Int} {x3 : Int} {x4 : Int} {x5 : Int} {x6 : Int} (h : (r32 x6) ∧ (r32 x3) ∧ ((x3 ≤ x6) → Z X (rX12_minor zN) mX12_minor 15 [(2, 211), (0, x1), (0, x2), (0, x3), (0, (x4 + 1)), (9, 0), (9, 0)] [] zN (z_up σ 211 17 ((σ 211 17) + 1)) (zQi T)) ∧ ((¬ (x3 ≤ x6)) → (0 ≤ x6) ∧ (x6 < 32) ∧ (r32 x2) ∧ (r32 ((x2 / 2 ^ x6.toNat) % 2 ^ 1)) ∧ ((¬ ((x2 / 2 ^ x6.toNat) % 2 ^ 1) = 1) → Z X (rX12_minor zN) mX12_minor 39 [(2, 211), (0, x1), (0, x2), (0, x3), (0, x4), (0, x5), (0, (x6 + 1))] [] zN σ (zQi T)) ∧ ((((x2 / 2 ^ x6.toNat) % 2 ^ 1) = 1) → ZC X (rX12_cell zN) mX12_cell [(2, 211), (0, (σ 211 17)), (0, x5)] zN σ (zQi (fun r7 σ8 => ZC X (rX12_between zN) mX12_between [(2, 211), (0, x1), (0, x4), (0, x3)] zN σ8 (zQi (fun r9 σ10 => ZC X (rX12_between zN) mX12_between [(2, 211), (0, x1), (0, x6), (0, x3)] zN σ10 (zQi (fun r11 σ12 => ZC X (rX12_between zN) mX12_between [(2, 211), (0, x1), (0, x4), (0, x6)] zN σ12 (zQi (fun r13 σ14 => (r32 ((r9 + r11) - r13)) ∧ ZC X (rX12_set zN) mX12_set [(2, 211), (0, r7), (1, ((r9 + r11) - r13))] zN σ14 (zQv (fun σ17 => Z X (rX12_minor zN) mX12_minor 39 [(2, 211), (0, x1), (0, x2), (0, x3), (0, x4), (0, (x5 + 1)), (0, (x6 + 1))] [] zN σ17 (zQi T)))))))))))))) : Z X (rX12_minor zN) mX12_minor 39 [(2, 211), (0, x1), (0, x2), (0, x3), (0, x4), (0, x5), (0, x6)] [] zN σ (zQi T) := by
  refine Z_iload dX12_minor_39 rfl ?_
  refine Z_iload_n 3 dX12_minor_41 rfl rfl ?_
  obtain ⟨g1, h⟩ := h
  obtain ⟨g2, h⟩ := h
  refine Z_icmp_ge (tgt := 106) dX12_minor_42 (by decide) g1 g2 (fun c => ?_) (fun c => ?_)
  · replace h := h.1 c
    refine Z_aload_n 0 dX12_minor_106 rfl rfl ?_
    refine Z_dup dX12_minor_107 (by simp) ?_
    refine Z_get (T := TX12) (N := 30) (ci := 12) (t := 0) 17 dX12_minor_108 la_211 (z_leN la_211 (by decide)) rfl (by decide) inX12 (by decide) (flX12_150 rfl) rfl ?_
    refine Z_iconst dX12_minor_111 ?_
    refine Z_iadd dX12_minor_112 ?_
    refine Z_put (T := TX12) (N := 30) (ci := 12) (t := 0) tyX12 17 dX12_minor_113 la_211 (z_leN la_211 (by decide)) rfl (by decide) inX12 (by decide) (plX12_150 rfl) rfl tyX12_ok nmX12 rfl (z_nf_i _) ?_
    refine Z_iinc (L' := [(2, 211), (0, x1), (0, x2), (0, x3), (0, (x4 + 1)), (0, x5), (0, x6)]) dX12_minor_116 rfl (Nat.le_of_ble_eq_true rfl) rfl ?_
    refine Z_goto (tgt := 15) dX12_minor_119 (by decide) ?_
    exact Z_few (z_few_k (z_few_k (z_few_k (z_few_k (z_few_k (z_few_d (z_few_d z_few_0))))))) h
  · replace h := h.2 c
    refine Z_iload_n 2 dX12_minor_45 rfl rfl ?_
    refine Z_iload dX12_minor_46 rfl ?_
    obtain ⟨g3, h⟩ := h
    obtain ⟨g4, h⟩ := h
    obtain ⟨g5, h⟩ := h
    refine Z_ishr dX12_minor_48 g3 g4 g5 ?_
    refine Z_iconst dX12_minor_49 ?_
    refine Z_iand 1 dX12_minor_50 (by decide) (by decide) ?_
    refine Z_iconst dX12_minor_51 ?_
    obtain ⟨g6, h⟩ := h
    refine Z_icmp_ne (tgt := 100) dX12_minor_52 (by decide) g6 ⟨by decide, by decide⟩ (fun c => ?_) (fun c => ?_)
    · replace h := h.1 c
      refine Z_iinc (L' := [(2, 211), (0, x1), (0, x2), (0, x3), (0, x4), (0, x5), (0, (x6 + 1))]) dX12_minor_100 rfl (Nat.le_of_ble_eq_true rfl) rfl ?_
      refine Z_goto (tgt := 39) dX12_minor_103 (by decide) ?_
      exact Z_few (z_few_k (z_few_k (z_few_k (z_few_k (z_few_k (z_few_k (z_few_k z_few_0))))))) h
    · replace h := h.2 c
      refine Z_aload_n 0 dX12_minor_55 rfl rfl ?_
      refine Z_aload_n 0 dX12_minor_56 rfl rfl ?_
      refine Z_aload_n 0 dX12_minor_57 rfl rfl ?_
      refine Z_get (T := TX12) (N := 30) (ci := 12) (t := 0) 17 dX12_minor_58 la_211 (z_leN la_211 (by decide)) rfl (by decide) inX12 (by decide) (flX12_150 rfl) rfl ?_
      refine Z_iload dX12_minor_61 rfl ?_
      refine Z_invV (T := TX12) (N := 30) (ci := 12) (M' := mX12_cell) (ρ' := rX12_cell zN) (st := [(2, 211)]) [(0, (σ 211 17)), (0, x5)] dX12_minor_63 rfl rfl la_211 (z_leN la_211 (by decide)) (by decide) rfl rfl (kX12_cell.cl (Nat.le_of_ble_eq_true rfl) (Nat.le_refl _) (Nat.le_refl _) (Nat.le_of_ble_eq_true rfl) (Nat.le_of_ble_eq_true rfl) (Nat.le_of_ble_eq_true rfl)) (mlX12_153 rfl) iX12_cell sX12_cell h (z_ki (fun r7 σ8 h => ?_))
      refine Z_aload_n 0 dX12_minor_66 rfl rfl ?_
      refine Z_iload_n 1 dX12_minor_67 rfl rfl ?_
      refine Z_iload dX12_minor_68 rfl ?_
      refine Z_iload_n 3 dX12_minor_70 rfl rfl ?_
      refine Z_invV (T := TX12) (N := 30) (ci := 12) (M' := mX12_between) (ρ' := rX12_between zN) (st := [(0, r7), (2, 211)]) [(0, x1), (0, x4), (0, x3)] dX12_minor_71 rfl rfl la_211 (z_leN la_211 (by decide)) (by decide) rfl rfl (kX12_between.cl (Nat.le_of_ble_eq_true rfl) (Nat.le_refl _) (Nat.le_refl _) (Nat.le_of_ble_eq_true rfl) (Nat.le_of_ble_eq_true rfl) (Nat.le_of_ble_eq_true rfl)) (mlX12_220 rfl) iX12_between sX12_between h (z_ki (fun r9 σ10 h => ?_))
      refine Z_aload_n 0 dX12_minor_74 rfl rfl ?_
      refine Z_iload_n 1 dX12_minor_75 rfl rfl ?_
      refine Z_iload dX12_minor_76 rfl ?_
      refine Z_iload_n 3 dX12_minor_78 rfl rfl ?_
      refine Z_invV (T := TX12) (N := 30) (ci := 12) (M' := mX12_between) (ρ' := rX12_between zN) (st := [(0, r9), (0, r7), (2, 211)]) [(0, x1), (0, x6), (0, x3)] dX12_minor_79 rfl rfl la_211 (z_leN la_211 (by decide)) (by decide) rfl rfl (kX12_between.cl (Nat.le_of_ble_eq_true rfl) (Nat.le_refl _) (Nat.le_refl _) (Nat.le_of_ble_eq_true rfl) (Nat.le_of_ble_eq_true rfl) (Nat.le_of_ble_eq_true rfl)) (mlX12_220 rfl) iX12_between sX12_between h (z_ki (fun r11 σ12 h => ?_))
      refine Z_iadd dX12_minor_82 ?_
      refine Z_aload_n 0 dX12_minor_83 rfl rfl ?_
      refine Z_iload_n 1 dX12_minor_84 rfl rfl ?_
      refine Z_iload dX12_minor_85 rfl ?_
      refine Z_iload dX12_minor_87 rfl ?_
      refine Z_invV (T := TX12) (N := 30) (ci := 12) (M' := mX12_between) (ρ' := rX12_between zN) (st := [(0, (r9 + r11)), (0, r7), (2, 211)]) [(0, x1), (0, x4), (0, x6)] dX12_minor_89 rfl rfl la_211 (z_leN la_211 (by decide)) (by decide) rfl rfl (kX12_between.cl (Nat.le_of_ble_eq_true rfl) (Nat.le_refl _) (Nat.le_refl _) (Nat.le_of_ble_eq_true rfl) (Nat.le_of_ble_eq_true rfl) (Nat.le_of_ble_eq_true rfl)) (mlX12_220 rfl) iX12_between sX12_between h (z_ki (fun r13 σ14 h => ?_))
      refine Z_isub dX12_minor_92 ?_
      obtain ⟨g15, h⟩ := h
      refine Z_i2l dX12_minor_93 g15 ?_
      refine Z_invV (T := TX12) (N := 30) (ci := 12) (M' := mX12_set) (ρ' := rX12_set zN) (st := []) [(0, r7), (1, ((r9 + r11) - r13))] dX12_minor_94 rfl rfl la_211 (z_leN la_211 (by decide)) (by decide) rfl rfl (kX12_set.cl (Nat.le_of_ble_eq_true rfl) (Nat.le_refl _) (Nat.le_refl _) (Nat.le_of_ble_eq_true rfl) (Nat.le_of_ble_eq_true rfl) (Nat.le_of_ble_eq_true rfl)) (mlX12_73 rfl) iX12_set sX12_set h (z_kv (fun σ17 h => ?_))
      refine Z_iinc (L' := [(2, 211), (0, x1), (0, x2), (0, x3), (0, x4), (0, (x5 + 1)), (0, x6)]) dX12_minor_97 rfl (Nat.le_of_ble_eq_true rfl) rfl ?_
      refine Z_iinc (L' := [(2, 211), (0, x1), (0, x2), (0, x3), (0, x4), (0, (x5 + 1)), (0, (x6 + 1))]) dX12_minor_100 rfl (Nat.le_of_ble_eq_true rfl) rfl ?_
      refine Z_goto (tgt := 39) dX12_minor_103 (by decide) ?_
      exact Z_few (z_few_k (z_few_k (z_few_k (z_few_k (z_few_k (z_few_k (z_few_k z_few_0))))))) h
