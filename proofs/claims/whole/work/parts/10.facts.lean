theorem z_memp {w : Cond} (i : Nat) (h : (k2_sels lw_privs)[i]? = some w) (hc : z_chk w = true) : w ∈ z_us := List.mem_filter.mpr ⟨List.mem_append_left _ (List.mem_of_getElem? h), hc⟩
theorem z_mem1 {w : Cond} (i : Nat) (h : tables_1_1[i]? = some w) (hc : z_chk w = true) : w ∈ z_us := List.mem_filter.mpr ⟨List.mem_append_right _ (List.mem_append_left _ (List.mem_of_getElem? h)), hc⟩
theorem z_mem2 {w : Cond} (i : Nat) (h : tables_1_2[i]? = some w) (hc : z_chk w = true) : w ∈ z_us := List.mem_filter.mpr ⟨List.mem_append_right _ (List.mem_append_right _ (List.mem_append_left _ (List.mem_of_getElem? h))), hc⟩
theorem z_mem3 {w : Cond} (i : Nat) (h : tables_1_3[i]? = some w) (hc : z_chk w = true) : w ∈ z_us := List.mem_filter.mpr ⟨List.mem_append_right _ (List.mem_append_right _ (List.mem_append_right _ (List.mem_append_left _ (List.mem_of_getElem? h)))), hc⟩
theorem z_mem4 {w : Cond} (i : Nat) (h : tables_1_4[i]? = some w) (hc : z_chk w = true) : w ∈ z_us := List.mem_filter.mpr ⟨List.mem_append_right _ (List.mem_append_right _ (List.mem_append_right _ (List.mem_append_right _ (List.mem_append_left _ (List.mem_of_getElem? h))))), hc⟩
theorem z_mem5 {w : Cond} (i : Nat) (h : tables_1_5[i]? = some w) (hc : z_chk w = true) : w ∈ z_us := List.mem_filter.mpr ⟨List.mem_append_right _ (List.mem_append_right _ (List.mem_append_right _ (List.mem_append_right _ (List.mem_append_right _ (List.mem_append_left _ (List.mem_of_getElem? h)))))), hc⟩
theorem z_mem6 {w : Cond} (i : Nat) (h : tables_1_6[i]? = some w) (hc : z_chk w = true) : w ∈ z_us := List.mem_filter.mpr ⟨List.mem_append_right _ (List.mem_append_right _ (List.mem_append_right _ (List.mem_append_right _ (List.mem_append_right _ (List.mem_append_right _ (List.mem_of_getElem? h)))))), hc⟩
def z_offl : List (List (Option Nat)) := [[some 1, some 2, some 4, some 6, some 8, some 10, none], [some 1, some 2, none, none], [some 1, some 2, some 3, some 4, none, none], [some 1, some 3], [some 1, some 2, some 4, some 6, some 8, some 10], [some 1, none], [some 1, some 2, none], [some 1, some 4, some 5], [some 1, some 2, some 3, none, none, none, none, none, none], [some 1, none, none], [some 1, some 4, some 6, some 8], [some 1, some 5, some 7, some 10, some 15, some 140, some 168, some 178, some 183, some 188, some 193, none, none, none, none], [some 1, some 2, some 3, some 4, none, some 5, some 6, some 7, some 8, none, some 9, none, none, none, some 10, some 11, some 12, none, none, none, none, some 13, some 14, none, some 15, some 16, none, some 17, some 18, none]]
def z_off (ci k : Nat) : Option Nat := (z_offl.getD ci []).getD k none
/-- references that never change are where the constructors put them -/
def Fix (σ : ZM) : Prop := ∀ (a : Int) (k d : Nat), z_off (z_l a).1 k = some d → σ a k = a + d
abbrev zN : Nat := 229
theorem z_leN {a : Int} {k m : Nat} (h : z_l a = (k, m)) (hk : k ≠ 99) : a.toNat ≤ zN := by
  have h1 := (z_l_pos (a := a) (by rw [h]; exact hk)).2
  have h2 : z_lay.length = zN + 1 := by decide +kernel
  omega
theorem z_step (d : Nat) (p q : Nat × Nat) (hc : ∀ i, i < z_lay.length → z_lay.getD i (99, 0) = p → z_lay.getD (i + d) (99, 0) = q) (hp : p.1 ≠ 99) {a : Int} (h : z_l a = p) : z_l (a + d) = q := by
  have h1 := z_l_pos (a := a) (by rw [h]; exact hp)
  have h2 : (a + d).toNat = a.toNat + d := by omega
  unfold z_l at h ⊢
  rw [h2]
  exact hc _ h1.2 h
theorem Fix.get {σ : ZM} (h : Fix σ) {a : Int} {ci m : Nat} (hl : z_l a = (ci, m)) (k d : Nat) (ho : z_off ci k = some d) : σ a k = a + d := h a k d (by rw [hl]; exact ho)
theorem Fix.up {σ : ZM} (h : Fix σ) {a i x : Int} (ho : ∀ k : Nat, i = k → z_off (z_l a).1 k = none) : Fix (z_up σ a i x) := by
  intro a' k d hd
  rw [z_up_ne]
  · exact h a' k d hd
  · by_cases ha : a' = a
    · subst ha
      refine Or.inr (fun q => ?_)
      rw [ho k q.symm] at hd
      cases hd
    · exact Or.inl ha
theorem z_off_arr {c k : Nat} (h : 20 ≤ c) : z_off c k = none := by
  unfold z_off
  rw [List.getD_eq_getElem?_getD (l := z_offl), List.getElem?_eq_none (show z_offl.length ≤ c from Nat.le_trans (by decide) h)]
  rfl
theorem Fix.upA {σ : ZM} (h : Fix σ) {a i x : Int} {c m : Nat} (hl : z_l a = (c, m)) (hc : 20 ≤ c) : Fix (z_up σ a i x) := h.up (fun k _ => by rw [hl]; exact z_off_arr hc)
theorem Fix.upF {σ : ZM} (h : Fix σ) {a x : Int} {c m : Nat} (hl : z_l a = (c, m)) (k : Nat) (hc : z_off c k = none) : Fix (z_up σ a k x) := h.up (fun j hj => by
  rw [hl]
  have : j = k := by omega
  rw [this]; exact hc)
theorem zo_0_0 {a : Int} (h : z_l a = (0, 7)) : z_l (a + 1) = (23, 8) := z_step 1 _ _ (by decide +kernel) (by decide) h
theorem zo_0_1 {a : Int} (h : z_l a = (0, 7)) : z_l (a + 2) = (9, 3) := z_step 2 _ _ (by decide +kernel) (by decide) h
theorem zo_0_2 {a : Int} (h : z_l a = (0, 7)) : z_l (a + 4) = (9, 3) := z_step 4 _ _ (by decide +kernel) (by decide) h
theorem zo_0_3 {a : Int} (h : z_l a = (0, 7)) : z_l (a + 6) = (9, 3) := z_step 6 _ _ (by decide +kernel) (by decide) h
theorem zo_0_4 {a : Int} (h : z_l a = (0, 7)) : z_l (a + 8) = (9, 3) := z_step 8 _ _ (by decide +kernel) (by decide) h
theorem zo_0_5 {a : Int} (h : z_l a = (0, 7)) : z_l (a + 10) = (9, 3) := z_step 10 _ _ (by decide +kernel) (by decide) h
theorem zo_1_0 {a : Int} (h : z_l a = (1, 4)) : z_l (a + 1) = (20, 13) := z_step 1 _ _ (by decide +kernel) (by decide) h
theorem zo_1_1 {a : Int} (h : z_l a = (1, 4)) : z_l (a + 2) = (20, 13) := z_step 2 _ _ (by decide +kernel) (by decide) h
theorem zo_2_0 {a : Int} (h : z_l a = (2, 6)) : z_l (a + 1) = (20, 8) := z_step 1 _ _ (by decide +kernel) (by decide) h
theorem zo_2_1 {a : Int} (h : z_l a = (2, 6)) : z_l (a + 2) = (20, 64) := z_step 2 _ _ (by decide +kernel) (by decide) h
theorem zo_2_2 {a : Int} (h : z_l a = (2, 6)) : z_l (a + 3) = (20, 8) := z_step 3 _ _ (by decide +kernel) (by decide) h
theorem zo_2_3 {a : Int} (h : z_l a = (2, 6)) : z_l (a + 4) = (20, 8) := z_step 4 _ _ (by decide +kernel) (by decide) h
theorem zo_3_0 {a : Int} (h : z_l a = (3, 2)) : z_l (a + 1) = (9, 3) := z_step 1 _ _ (by decide +kernel) (by decide) h
theorem zo_3_1 {a : Int} (h : z_l a = (3, 2)) : z_l (a + 3) = (9, 3) := z_step 3 _ _ (by decide +kernel) (by decide) h
theorem zo_4_0 {a : Int} (h : z_l a = (4, 6)) : z_l (a + 1) = (23, 56) := z_step 1 _ _ (by decide +kernel) (by decide) h
theorem zo_4_1 {a : Int} (h : z_l a = (4, 6)) : z_l (a + 2) = (9, 3) := z_step 2 _ _ (by decide +kernel) (by decide) h
theorem zo_4_2 {a : Int} (h : z_l a = (4, 6)) : z_l (a + 4) = (9, 3) := z_step 4 _ _ (by decide +kernel) (by decide) h
theorem zo_4_3 {a : Int} (h : z_l a = (4, 6)) : z_l (a + 6) = (9, 3) := z_step 6 _ _ (by decide +kernel) (by decide) h
theorem zo_4_4 {a : Int} (h : z_l a = (4, 6)) : z_l (a + 8) = (9, 3) := z_step 8 _ _ (by decide +kernel) (by decide) h
theorem zo_4_5 {a : Int} (h : z_l a = (4, 6)) : z_l (a + 10) = (1, 4) := z_step 10 _ _ (by decide +kernel) (by decide) h
theorem zo_5_0 {a : Int} (h : z_l a = (5, 2)) : z_l (a + 1) = (20, 486) := z_step 1 _ _ (by decide +kernel) (by decide) h
theorem zo_6_0 {a : Int} (h : z_l a = (6, 3)) : z_l (a + 1) = (20, (z_l (a + 1)).2) := by
  have h1 : (z_l (a + (1 : Nat))).1 = 20 := by
    have h2 := z_l_pos (a := a) (by rw [h]; decide)
    have h3 : (a + (1 : Nat)).toNat = a.toNat + 1 := by omega
    have hc : ∀ i, i < z_lay.length → z_lay.getD i (99, 0) = (6, 3) → (z_lay.getD (i + 1) (99, 0)).1 = 20 := by decide +kernel
    unfold z_l at h ⊢
    rw [h3]
    exact hc _ h2.2 h
  exact Prod.ext h1 rfl
theorem zo_6_1 {a : Int} (h : z_l a = (6, 3)) : z_l (a + 2) = (20, (z_l (a + 2)).2) := by
  have h1 : (z_l (a + (2 : Nat))).1 = 20 := by
    have h2 := z_l_pos (a := a) (by rw [h]; decide)
    have h3 : (a + (2 : Nat)).toNat = a.toNat + 2 := by omega
    have hc : ∀ i, i < z_lay.length → z_lay.getD i (99, 0) = (6, 3) → (z_lay.getD (i + 2) (99, 0)).1 = 20 := by decide +kernel
    unfold z_l at h ⊢
    rw [h3]
    exact hc _ h2.2 h
  exact Prod.ext h1 rfl
theorem zo_7_0 {a : Int} (h : z_l a = (7, 3)) : z_l (a + 1) = (6, 3) := z_step 1 _ _ (by decide +kernel) (by decide) h
theorem zo_7_1 {a : Int} (h : z_l a = (7, 3)) : z_l (a + 4) = (20, 8) := z_step 4 _ _ (by decide +kernel) (by decide) h
theorem zo_7_2 {a : Int} (h : z_l a = (7, 3)) : z_l (a + 5) = (20, 8) := z_step 5 _ _ (by decide +kernel) (by decide) h
theorem zo_8_0 {a : Int} (h : z_l a = (8, 9)) : z_l (a + 1) = (21, 480) := z_step 1 _ _ (by decide +kernel) (by decide) h
theorem zo_8_1 {a : Int} (h : z_l a = (8, 9)) : z_l (a + 2) = (20, 8) := z_step 2 _ _ (by decide +kernel) (by decide) h
theorem zo_8_2 {a : Int} (h : z_l a = (8, 9)) : z_l (a + 3) = (20, 8) := z_step 3 _ _ (by decide +kernel) (by decide) h
theorem zo_9_0 {a : Int} (h : z_l a = (9, 3)) : z_l (a + 1) = (20, 12) := z_step 1 _ _ (by decide +kernel) (by decide) h
theorem zo_10_0 {a : Int} (h : z_l a = (10, 4)) : z_l (a + 1) = (1, 4) := z_step 1 _ _ (by decide +kernel) (by decide) h
theorem zo_10_1 {a : Int} (h : z_l a = (10, 4)) : z_l (a + 4) = (9, 3) := z_step 4 _ _ (by decide +kernel) (by decide) h
theorem zo_10_2 {a : Int} (h : z_l a = (10, 4)) : z_l (a + 6) = (9, 3) := z_step 6 _ _ (by decide +kernel) (by decide) h
theorem zo_10_3 {a : Int} (h : z_l a = (10, 4)) : z_l (a + 8) = (9, 3) := z_step 8 _ _ (by decide +kernel) (by decide) h
theorem zo_11_0 {a : Int} (h : z_l a = (11, 15)) : z_l (a + 1) = (8, 9) := z_step 1 _ _ (by decide +kernel) (by decide) h
theorem zo_11_1 {a : Int} (h : z_l a = (11, 15)) : z_l (a + 5) = (5, 2) := z_step 5 _ _ (by decide +kernel) (by decide) h
theorem zo_11_2 {a : Int} (h : z_l a = (11, 15)) : z_l (a + 7) = (6, 3) := z_step 7 _ _ (by decide +kernel) (by decide) h
theorem zo_11_3 {a : Int} (h : z_l a = (11, 15)) : z_l (a + 10) = (2, 6) := z_step 10 _ _ (by decide +kernel) (by decide) h
theorem zo_11_4 {a : Int} (h : z_l a = (11, 15)) : z_l (a + 15) = (4, 6) := z_step 15 _ _ (by decide +kernel) (by decide) h
theorem zo_11_5 {a : Int} (h : z_l a = (11, 15)) : z_l (a + 140) = (0, 7) := z_step 140 _ _ (by decide +kernel) (by decide) h
theorem zo_11_6 {a : Int} (h : z_l a = (11, 15)) : z_l (a + 168) = (10, 4) := z_step 168 _ _ (by decide +kernel) (by decide) h
theorem zo_11_7 {a : Int} (h : z_l a = (11, 15)) : z_l (a + 178) = (3, 2) := z_step 178 _ _ (by decide +kernel) (by decide) h
theorem zo_11_8 {a : Int} (h : z_l a = (11, 15)) : z_l (a + 183) = (3, 2) := z_step 183 _ _ (by decide +kernel) (by decide) h
theorem zo_11_9 {a : Int} (h : z_l a = (11, 15)) : z_l (a + 188) = (3, 2) := z_step 188 _ _ (by decide +kernel) (by decide) h
theorem zo_11_10 {a : Int} (h : z_l a = (11, 15)) : z_l (a + 193) = (3, 2) := z_step 193 _ _ (by decide +kernel) (by decide) h
theorem zo_12_0 {a : Int} (h : z_l a = (12, 30)) : z_l (a + 1) = (21, 2112) := z_step 1 _ _ (by decide +kernel) (by decide) h
theorem zo_12_1 {a : Int} (h : z_l a = (12, 30)) : z_l (a + 2) = (20, 8) := z_step 2 _ _ (by decide +kernel) (by decide) h
theorem zo_12_2 {a : Int} (h : z_l a = (12, 30)) : z_l (a + 3) = (20, 8) := z_step 3 _ _ (by decide +kernel) (by decide) h
theorem zo_12_3 {a : Int} (h : z_l a = (12, 30)) : z_l (a + 4) = (21, 480) := z_step 4 _ _ (by decide +kernel) (by decide) h
theorem zo_12_5 {a : Int} (h : z_l a = (12, 30)) : z_l (a + 5) = (20, 8) := z_step 5 _ _ (by decide +kernel) (by decide) h
theorem zo_12_6 {a : Int} (h : z_l a = (12, 30)) : z_l (a + 6) = (20, 8) := z_step 6 _ _ (by decide +kernel) (by decide) h
theorem zo_12_7 {a : Int} (h : z_l a = (12, 30)) : z_l (a + 7) = (20, 8) := z_step 7 _ _ (by decide +kernel) (by decide) h
theorem zo_12_8 {a : Int} (h : z_l a = (12, 30)) : z_l (a + 8) = (20, 8) := z_step 8 _ _ (by decide +kernel) (by decide) h
theorem zo_12_10 {a : Int} (h : z_l a = (12, 30)) : z_l (a + 9) = (20, 486) := z_step 9 _ _ (by decide +kernel) (by decide) h
theorem zo_12_14 {a : Int} (h : z_l a = (12, 30)) : z_l (a + 10) = (21, 16) := z_step 10 _ _ (by decide +kernel) (by decide) h
theorem zo_12_15 {a : Int} (h : z_l a = (12, 30)) : z_l (a + 11) = (21, 16) := z_step 11 _ _ (by decide +kernel) (by decide) h
theorem zo_12_16 {a : Int} (h : z_l a = (12, 30)) : z_l (a + 12) = (21, 16) := z_step 12 _ _ (by decide +kernel) (by decide) h
theorem zo_12_21 {a : Int} (h : z_l a = (12, 30)) : z_l (a + 13) = (20, 10) := z_step 13 _ _ (by decide +kernel) (by decide) h
theorem zo_12_22 {a : Int} (h : z_l a = (12, 30)) : z_l (a + 14) = (20, 60) := z_step 14 _ _ (by decide +kernel) (by decide) h
theorem zo_12_24 {a : Int} (h : z_l a = (12, 30)) : z_l (a + 15) = (20, 6) := z_step 15 _ _ (by decide +kernel) (by decide) h
theorem zo_12_25 {a : Int} (h : z_l a = (12, 30)) : z_l (a + 16) = (20, 6) := z_step 16 _ _ (by decide +kernel) (by decide) h
theorem zo_12_27 {a : Int} (h : z_l a = (12, 30)) : z_l (a + 17) = (20, 8) := z_step 17 _ _ (by decide +kernel) (by decide) h
theorem zo_12_28 {a : Int} (h : z_l a = (12, 30)) : z_l (a + 18) = (22, 8) := z_step 18 _ _ (by decide +kernel) (by decide) h
abbrev mX0_init : ZT := (yX0_init, cX0_init, 2, none)
abbrev rX0_init (n1 : Nat) : ZR := (2, 40, n1)
theorem kX0_init : z_k mX0_init 0 := ⟨by decide +kernel, z_mem1 211 rfl rfl, z_mem1 10 rfl rfl, by decide +kernel, by decide +kernel, by decide +kernel⟩
theorem iX0_init : Cond.instanceMethod yX0_init ∈ z_us := z_mem1 210 rfl rfl
abbrev mX0_take : ZT := (yX0_take, cX0_take, 7, none)
abbrev rX0_take (n1 : Nat) : ZR := (3, 83, n1)
theorem kX0_take : z_k mX0_take 4 := ⟨by decide +kernel, z_mem3 216 rfl rfl, z_mem1 10 rfl rfl, by decide +kernel, by decide +kernel, by decide +kernel⟩
theorem iX0_take : Cond.instanceMethod yX0_take ∈ z_us := z_mem3 214 rfl rfl
theorem sX0_take : Cond.selects RX0 yX0_take yX0_take ∈ z_us := z_mem3 215 rfl rfl
abbrev mX0_takeWeights : ZT := (yX0_takeWeights, cX0_takeWeights, 6, none)
abbrev rX0_takeWeights (n1 : Nat) : ZR := (2, 58, n1)
theorem kX0_takeWeights : z_k mX0_takeWeights 2 := ⟨by decide +kernel, z_mem3 222 rfl rfl, z_mem1 10 rfl rfl, by decide +kernel, by decide +kernel, by decide +kernel⟩
theorem iX0_takeWeights : Cond.instanceMethod yX0_takeWeights ∈ z_us := z_mem3 221 rfl rfl
theorem sX0_takeWeights : Cond.selects RX0 yX0_takeWeights yX0_takeWeights ∈ z_us := z_memp 19 rfl rfl
abbrev mX1_init : ZT := (yX1_init, cX1_init, 1, none)
abbrev rX1_init (n1 : Nat) : ZR := (1, 20, n1)
theorem kX1_init : z_k mX1_init 0 := ⟨by decide +kernel, z_mem1 171 rfl rfl, z_mem1 9 rfl rfl, by decide +kernel, by decide +kernel, by decide +kernel⟩
theorem iX1_init : Cond.instanceMethod yX1_init ∈ z_us := z_mem1 170 rfl rfl
abbrev mX1_divide : ZT := (yX1_divide, cX1_divide, 9, none)
abbrev rX1_divide (n1 : Nat) : ZR := (2, 52, n1)
theorem kX1_divide : z_k mX1_divide 3 := ⟨by decide +kernel, z_mem3 180 rfl rfl, z_mem1 9 rfl rfl, by decide +kernel, by decide +kernel, by decide +kernel⟩
theorem iX1_divide : Cond.instanceMethod yX1_divide ∈ z_us := z_mem3 178 rfl rfl
theorem sX1_divide : Cond.selects RX1 yX1_divide yX1_divide ∈ z_us := z_mem3 179 rfl rfl
abbrev mX1_takeRest : ZT := (yX1_takeRest, cX1_takeRest, 9, none)
abbrev rX1_takeRest (n1 : Nat) : ZR := (1, 22, n1)
theorem kX1_takeRest : z_k mX1_takeRest 1 := ⟨by decide +kernel, z_mem4 16 rfl rfl, z_mem1 9 rfl rfl, by decide +kernel, by decide +kernel, by decide +kernel⟩
theorem iX1_takeRest : Cond.instanceMethod yX1_takeRest ∈ z_us := z_mem4 14 rfl rfl
theorem sX1_takeRest : Cond.selects RX1 yX1_takeRest yX1_takeRest ∈ z_us := z_mem4 15 rfl rfl
abbrev mX1_divideByPart : ZT := (yX1_divideByPart, cX1_divideByPart, 12, none)
abbrev rX1_divideByPart (n1 : Nat) : ZR := (1, 21, n1)
theorem kX1_divideByPart : z_k mX1_divideByPart 3 := ⟨by decide +kernel, z_mem3 184 rfl rfl, z_mem1 9 rfl rfl, by decide +kernel, by decide +kernel, by decide +kernel⟩
theorem iX1_divideByPart : Cond.instanceMethod yX1_divideByPart ∈ z_us := z_mem3 183 rfl rfl
theorem sX1_divideByPart : Cond.selects RX1 yX1_divideByPart yX1_divideByPart ∈ z_us := z_memp 14 rfl rfl
abbrev mX1_copyScaled : ZT := (yX1_copyScaled, cX1_copyScaled, 9, none)
abbrev rX1_copyScaled (n1 : Nat) : ZR := (0, 0, n1)
theorem kX1_copyScaled : z_k mX1_copyScaled 3 := ⟨by decide +kernel, z_mem3 191 rfl rfl, z_mem1 9 rfl rfl, by decide +kernel, by decide +kernel, by decide +kernel⟩
theorem iX1_copyScaled : Cond.instanceMethod yX1_copyScaled ∈ z_us := z_mem3 190 rfl rfl
theorem sX1_copyScaled : Cond.selects RX1 yX1_copyScaled yX1_copyScaled ∈ z_us := z_memp 15 rfl rfl
abbrev mX1_guessPart : ZT := (yX1_guessPart, cX1_guessPart, 12, (some .long))
abbrev rX1_guessPart (n1 : Nat) : ZR := (0, 0, n1)
theorem kX1_guessPart : z_k mX1_guessPart 1 := ⟨by decide +kernel, z_mem3 196 rfl rfl, z_mem1 9 rfl rfl, by decide +kernel, by decide +kernel, by decide +kernel⟩
theorem iX1_guessPart : Cond.instanceMethod yX1_guessPart ∈ z_us := z_mem3 195 rfl rfl
theorem sX1_guessPart : Cond.selects RX1 yX1_guessPart yX1_guessPart ∈ z_us := z_memp 16 rfl rfl
abbrev mX1_takeAway : ZT := (yX1_takeAway, cX1_takeAway, 11, (some .boolean))
abbrev rX1_takeAway (n1 : Nat) : ZR := (0, 0, n1)
theorem kX1_takeAway : z_k mX1_takeAway 2 := ⟨by decide +kernel, z_mem3 200 rfl rfl, z_mem1 9 rfl rfl, by decide +kernel, by decide +kernel, by decide +kernel⟩
theorem iX1_takeAway : Cond.instanceMethod yX1_takeAway ∈ z_us := z_mem3 199 rfl rfl
theorem sX1_takeAway : Cond.selects RX1 yX1_takeAway yX1_takeAway ∈ z_us := z_memp 17 rfl rfl
abbrev mX1_giveBack : ZT := (yX1_giveBack, cX1_giveBack, 7, none)
abbrev rX1_giveBack (n1 : Nat) : ZR := (0, 0, n1)
theorem kX1_giveBack : z_k mX1_giveBack 1 := ⟨by decide +kernel, z_mem3 204 rfl rfl, z_mem1 9 rfl rfl, by decide +kernel, by decide +kernel, by decide +kernel⟩
theorem iX1_giveBack : Cond.instanceMethod yX1_giveBack ∈ z_us := z_mem3 203 rfl rfl
theorem sX1_giveBack : Cond.selects RX1 yX1_giveBack yX1_giveBack ∈ z_us := z_memp 18 rfl rfl
abbrev mX2_init : ZT := (yX2_init, cX2_init, 1, none)
abbrev rX2_init (n1 : Nat) : ZR := (1, 20, n1)
theorem kX2_init : z_k mX2_init 0 := ⟨by decide +kernel, z_mem1 108 rfl rfl, z_mem1 6 rfl rfl, by decide +kernel, by decide +kernel, by decide +kernel⟩
theorem iX2_init : Cond.instanceMethod yX2_init ∈ z_us := z_mem1 107 rfl rfl
abbrev mX2_unknowns : ZT := (yX2_unknowns, cX2_unknowns, 1, (some .int))
abbrev rX2_unknowns (n1 : Nat) : ZR := (1, 21, n1)
theorem kX2_unknowns : z_k mX2_unknowns 0 := ⟨by decide +kernel, z_mem3 145 rfl rfl, z_mem1 6 rfl rfl, by decide +kernel, by decide +kernel, by decide +kernel⟩
theorem iX2_unknowns : Cond.instanceMethod yX2_unknowns ∈ z_us := z_mem3 143 rfl rfl
theorem sX2_unknowns : Cond.selects RX2 yX2_unknowns yX2_unknowns ∈ z_us := z_mem3 144 rfl rfl
abbrev mX2_chooseAllBut : ZT := (yX2_chooseAllBut, cX2_chooseAllBut, 4, none)
abbrev rX2_chooseAllBut (n1 : Nat) : ZR := (0, 0, n1)
theorem kX2_chooseAllBut : z_k mX2_chooseAllBut 2 := ⟨by decide +kernel, z_mem4 28 rfl rfl, z_mem1 6 rfl rfl, by decide +kernel, by decide +kernel, by decide +kernel⟩
theorem iX2_chooseAllBut : Cond.instanceMethod yX2_chooseAllBut ∈ z_us := z_mem4 26 rfl rfl
theorem sX2_chooseAllBut : Cond.selects RX2 yX2_chooseAllBut yX2_chooseAllBut ∈ z_us := z_mem4 27 rfl rfl
abbrev mX2_chooseNearest : ZT := (yX2_chooseNearest, cX2_chooseNearest, 6, none)
abbrev rX2_chooseNearest (n1 : Nat) : ZR := (2, 44, n1)
theorem kX2_chooseNearest : z_k mX2_chooseNearest 3 := ⟨by decide +kernel, z_mem3 95 rfl rfl, z_mem1 6 rfl rfl, by decide +kernel, by decide +kernel, by decide +kernel⟩
theorem iX2_chooseNearest : Cond.instanceMethod yX2_chooseNearest ∈ z_us := z_mem3 93 rfl rfl
theorem sX2_chooseNearest : Cond.selects RX2 yX2_chooseNearest yX2_chooseNearest ∈ z_us := z_mem3 94 rfl rfl
abbrev mX2_countNearer : ZT := (yX2_countNearer, cX2_countNearer, 5, (some .int))
abbrev rX2_countNearer (n1 : Nat) : ZR := (0, 0, n1)
theorem kX2_countNearer : z_k mX2_countNearer 2 := ⟨by decide +kernel, z_mem3 106 rfl rfl, z_mem1 6 rfl rfl, by decide +kernel, by decide +kernel, by decide +kernel⟩
theorem iX2_countNearer : Cond.instanceMethod yX2_countNearer ∈ z_us := z_mem3 105 rfl rfl
theorem sX2_countNearer : Cond.selects RX2 yX2_countNearer yX2_countNearer ∈ z_us := z_memp 8 rfl rfl
abbrev mX2_prepare : ZT := (yX2_prepare, cX2_prepare, 6, none)
abbrev rX2_prepare (n1 : Nat) : ZR := (4, 95, n1)
theorem kX2_prepare : z_k mX2_prepare 5 := ⟨by decide +kernel, z_mem3 110 rfl rfl, z_mem1 6 rfl rfl, by decide +kernel, by decide +kernel, by decide +kernel⟩
theorem iX2_prepare : Cond.instanceMethod yX2_prepare ∈ z_us := z_mem3 108 rfl rfl
theorem sX2_prepare : Cond.selects RX2 yX2_prepare yX2_prepare ∈ z_us := z_mem3 109 rfl rfl
abbrev mX2_measure : ZT := (yX2_measure, cX2_measure, 8, none)
abbrev rX2_measure (n1 : Nat) : ZR := (3, 66, n1)
theorem kX2_measure : z_k mX2_measure 4 := ⟨by decide +kernel, z_mem3 114 rfl rfl, z_mem1 6 rfl rfl, by decide +kernel, by decide +kernel, by decide +kernel⟩
theorem iX2_measure : Cond.instanceMethod yX2_measure ∈ z_us := z_mem3 112 rfl rfl
theorem sX2_measure : Cond.selects RX2 yX2_measure yX2_measure ∈ z_us := z_mem3 113 rfl rfl
abbrev mX2_reachOut : ZT := (yX2_reachOut, cX2_reachOut, 8, none)
abbrev rX2_reachOut (n1 : Nat) : ZR := (2, 44, n1)
theorem kX2_reachOut : z_k mX2_reachOut 4 := ⟨by decide +kernel, z_mem3 124 rfl rfl, z_mem1 6 rfl rfl, by decide +kernel, by decide +kernel, by decide +kernel⟩
theorem iX2_reachOut : Cond.instanceMethod yX2_reachOut ∈ z_us := z_mem3 123 rfl rfl
theorem sX2_reachOut : Cond.selects RX2 yX2_reachOut yX2_reachOut ∈ z_us := z_memp 9 rfl rfl
abbrev mX2_unlikeWithin : ZT := (yX2_unlikeWithin, cX2_unlikeWithin, 7, (some .int))
abbrev rX2_unlikeWithin (n1 : Nat) : ZR := (3, 66, n1)
theorem kX2_unlikeWithin : z_k mX2_unlikeWithin 3 := ⟨by decide +kernel, z_mem3 212 rfl rfl, z_mem1 6 rfl rfl, by decide +kernel, by decide +kernel, by decide +kernel⟩
theorem iX2_unlikeWithin : Cond.instanceMethod yX2_unlikeWithin ∈ z_us := z_mem3 210 rfl rfl
theorem sX2_unlikeWithin : Cond.selects RX2 yX2_unlikeWithin yX2_unlikeWithin ∈ z_us := z_mem3 211 rfl rfl
abbrev mX2_fillSquare : ZT := (yX2_fillSquare, cX2_fillSquare, 5, none)
abbrev rX2_fillSquare (n1 : Nat) : ZR := (3, 71, n1)
theorem kX2_fillSquare : z_k mX2_fillSquare 1 := ⟨by decide +kernel, z_mem3 128 rfl rfl, z_mem1 6 rfl rfl, by decide +kernel, by decide +kernel, by decide +kernel⟩
theorem iX2_fillSquare : Cond.instanceMethod yX2_fillSquare ∈ z_us := z_mem3 126 rfl rfl
theorem sX2_fillSquare : Cond.selects RX2 yX2_fillSquare yX2_fillSquare ∈ z_us := z_mem3 127 rfl rfl
abbrev mX2_fillRight : ZT := (yX2_fillRight, cX2_fillRight, 4, none)
abbrev rX2_fillRight (n1 : Nat) : ZR := (3, 71, n1)
theorem kX2_fillRight : z_k mX2_fillRight 1 := ⟨by decide +kernel, z_mem3 141 rfl rfl, z_mem1 6 rfl rfl, by decide +kernel, by decide +kernel, by decide +kernel⟩
theorem iX2_fillRight : Cond.instanceMethod yX2_fillRight ∈ z_us := z_mem3 140 rfl rfl
theorem sX2_fillRight : Cond.selects RX2 yX2_fillRight yX2_fillRight ∈ z_us := z_memp 10 rfl rfl
abbrev mX2_tellOff : ZT := (yX2_tellOff, cX2_tellOff, 8, none)
abbrev rX2_tellOff (n1 : Nat) : ZR := (2, 58, n1)
theorem kX2_tellOff : z_k mX2_tellOff 4 := ⟨by decide +kernel, z_mem4 32 rfl rfl, z_mem1 6 rfl rfl, by decide +kernel, by decide +kernel, by decide +kernel⟩
theorem iX2_tellOff : Cond.instanceMethod yX2_tellOff ∈ z_us := z_mem4 30 rfl rfl
theorem sX2_tellOff : Cond.selects RX2 yX2_tellOff yX2_tellOff ∈ z_us := z_mem4 31 rfl rfl
abbrev mX3_init : ZT := (yX3_init, cX3_init, 1, none)
abbrev rX3_init (n1 : Nat) : ZR := (2, 47, n1)
theorem kX3_init : z_k mX3_init 0 := ⟨by decide +kernel, z_mem2 31 rfl rfl, z_mem1 12 rfl rfl, by decide +kernel, by decide +kernel, by decide +kernel⟩
theorem iX3_init : Cond.instanceMethod yX3_init ∈ z_us := z_mem2 30 rfl rfl
abbrev mX3_copyFrom : ZT := (yX3_copyFrom, cX3_copyFrom, 2, none)
abbrev rX3_copyFrom (n1 : Nat) : ZR := (2, 44, n1)
theorem kX3_copyFrom : z_k mX3_copyFrom 1 := ⟨by decide +kernel, z_mem4 58 rfl rfl, z_mem1 12 rfl rfl, by decide +kernel, by decide +kernel, by decide +kernel⟩
theorem iX3_copyFrom : Cond.instanceMethod yX3_copyFrom ∈ z_us := z_mem4 56 rfl rfl
theorem sX3_copyFrom : Cond.selects RX3 yX3_copyFrom yX3_copyFrom ∈ z_us := z_mem4 57 rfl rfl
abbrev mX4_init : ZT := (yX4_init, cX4_init, 2, none)
abbrev rX4_init (n1 : Nat) : ZR := (2, 40, n1)
theorem kX4_init : z_k mX4_init 0 := ⟨by decide +kernel, z_mem1 138 rfl rfl, z_mem1 7 rfl rfl, by decide +kernel, by decide +kernel, by decide +kernel⟩
theorem iX4_init : Cond.instanceMethod yX4_init ∈ z_us := z_mem1 137 rfl rfl
abbrev mX4_cell : ZT := (yX4_cell, cX4_cell, 4, (some (.object "NeighbourBoard$Whole")))
abbrev rX4_cell (n1 : Nat) : ZR := (0, 0, n1)
theorem kX4_cell : z_k mX4_cell 2 := ⟨by decide +kernel, z_mem3 136 rfl rfl, z_mem1 7 rfl rfl, by decide +kernel, by decide +kernel, by decide +kernel⟩
theorem iX4_cell : Cond.instanceMethod yX4_cell ∈ z_us := z_mem3 134 rfl rfl
theorem sX4_cell : Cond.selects RX4 yX4_cell yX4_cell ∈ z_us := z_mem3 135 rfl rfl
abbrev mX4_put : ZT := (yX4_put, cX4_put, 5, none)
abbrev rX4_put (n1 : Nat) : ZR := (2, 47, n1)
theorem kX4_put : z_k mX4_put 3 := ⟨by decide +kernel, z_mem3 132 rfl rfl, z_mem1 7 rfl rfl, by decide +kernel, by decide +kernel, by decide +kernel⟩
theorem iX4_put : Cond.instanceMethod yX4_put ∈ z_us := z_mem3 130 rfl rfl
theorem sX4_put : Cond.selects RX4 yX4_put yX4_put ∈ z_us := z_mem3 131 rfl rfl
abbrev mX4_solve : ZT := (yX4_solve, cX4_solve, 3, (some .boolean))
abbrev rX4_solve (n1 : Nat) : ZR := (4, 115, n1)
theorem kX4_solve : z_k mX4_solve 1 := ⟨by decide +kernel, z_mem3 150 rfl rfl, z_mem1 7 rfl rfl, by decide +kernel, by decide +kernel, by decide +kernel⟩
theorem iX4_solve : Cond.instanceMethod yX4_solve ∈ z_us := z_mem3 148 rfl rfl
theorem sX4_solve : Cond.selects RX4 yX4_solve yX4_solve ∈ z_us := z_mem3 149 rfl rfl
abbrev mX4_judge : ZT := (yX4_judge, cX4_judge, 5, (some .int))
abbrev rX4_judge (n1 : Nat) : ZR := (4, 115, n1)
theorem kX4_judge : z_k mX4_judge 1 := ⟨by decide +kernel, z_mem4 73 rfl rfl, z_mem1 7 rfl rfl, by decide +kernel, by decide +kernel, by decide +kernel⟩
theorem iX4_judge : Cond.instanceMethod yX4_judge ∈ z_us := z_mem4 71 rfl rfl
theorem sX4_judge : Cond.selects RX4 yX4_judge yX4_judge ∈ z_us := z_mem4 72 rfl rfl
abbrev mX4_isZeroBehind : ZT := (yX4_isZeroBehind, cX4_isZeroBehind, 4, (some .boolean))
abbrev rX4_isZeroBehind (n1 : Nat) : ZR := (1, 23, n1)
theorem kX4_isZeroBehind : z_k mX4_isZeroBehind 2 := ⟨by decide +kernel, z_mem4 77 rfl rfl, z_mem1 7 rfl rfl, by decide +kernel, by decide +kernel, by decide +kernel⟩
theorem iX4_isZeroBehind : Cond.instanceMethod yX4_isZeroBehind ∈ z_us := z_mem4 76 rfl rfl
theorem sX4_isZeroBehind : Cond.selects RX4 yX4_isZeroBehind yX4_isZeroBehind ∈ z_us := z_memp 25 rfl rfl
abbrev mX4_bringPivot : ZT := (yX4_bringPivot, cX4_bringPivot, 6, (some .boolean))
abbrev rX4_bringPivot (n1 : Nat) : ZR := (1, 23, n1)
theorem kX4_bringPivot : z_k mX4_bringPivot 2 := ⟨by decide +kernel, z_mem3 154 rfl rfl, z_mem1 7 rfl rfl, by decide +kernel, by decide +kernel, by decide +kernel⟩
theorem iX4_bringPivot : Cond.instanceMethod yX4_bringPivot ∈ z_us := z_mem3 153 rfl rfl
theorem sX4_bringPivot : Cond.selects RX4 yX4_bringPivot yX4_bringPivot ∈ z_us := z_memp 11 rfl rfl
abbrev mX4_clearColumn : ZT := (yX4_clearColumn, cX4_clearColumn, 16, none)
abbrev rX4_clearColumn (n1 : Nat) : ZR := (3, 80, n1)
theorem kX4_clearColumn : z_k mX4_clearColumn 4 := ⟨by decide +kernel, z_mem3 158 rfl rfl, z_mem1 7 rfl rfl, by decide +kernel, by decide +kernel, by decide +kernel⟩
theorem iX4_clearColumn : Cond.instanceMethod yX4_clearColumn ∈ z_us := z_mem3 157 rfl rfl
theorem sX4_clearColumn : Cond.selects RX4 yX4_clearColumn yX4_clearColumn ∈ z_us := z_memp 12 rfl rfl
abbrev mX5_init : ZT := (yX5_init, cX5_init, 1, none)
abbrev rX5_init (n1 : Nat) : ZR := (1, 20, n1)
theorem kX5_init : z_k mX5_init 0 := ⟨by decide +kernel, z_mem1 68 rfl rfl, z_mem1 3 rfl rfl, by decide +kernel, by decide +kernel, by decide +kernel⟩
theorem iX5_init : Cond.instanceMethod yX5_init ∈ z_us := z_mem1 67 rfl rfl
abbrev mX5_has : ZT := (yX5_has, cX5_has, 2, (some .boolean))
abbrev rX5_has (n1 : Nat) : ZR := (0, 0, n1)
theorem kX5_has : z_k mX5_has 1 := ⟨by decide +kernel, z_mem3 56 rfl rfl, z_mem1 3 rfl rfl, by decide +kernel, by decide +kernel, by decide +kernel⟩
theorem iX5_has : Cond.instanceMethod yX5_has ∈ z_us := z_mem3 54 rfl rfl
theorem sX5_has : Cond.selects RX5 yX5_has yX5_has ∈ z_us := z_mem3 55 rfl rfl
abbrev mX5_isFull : ZT := (yX5_isFull, cX5_isFull, 1, (some .boolean))
abbrev rX5_isFull (n1 : Nat) : ZR := (0, 0, n1)
theorem kX5_isFull : z_k mX5_isFull 0 := ⟨by decide +kernel, z_mem3 19 rfl rfl, z_mem1 3 rfl rfl, by decide +kernel, by decide +kernel, by decide +kernel⟩
theorem iX5_isFull : Cond.instanceMethod yX5_isFull ∈ z_us := z_mem3 17 rfl rfl
theorem sX5_isFull : Cond.selects RX5 yX5_isFull yX5_isFull ∈ z_us := z_mem3 18 rfl rfl
abbrev mX5_tell : ZT := (yX5_tell, cX5_tell, 3, (some .int))
abbrev rX5_tell (n1 : Nat) : ZR := (1, 21, n1)
theorem kX5_tell : z_k mX5_tell 2 := ⟨by decide +kernel, z_mem3 64 rfl rfl, z_mem1 3 rfl rfl, by decide +kernel, by decide +kernel, by decide +kernel⟩
theorem iX5_tell : Cond.instanceMethod yX5_tell ∈ z_us := z_mem3 62 rfl rfl
theorem sX5_tell : Cond.selects RX5 yX5_tell yX5_tell ∈ z_us := z_mem3 63 rfl rfl
abbrev mX5_draft : ZT := (yX5_draft, cX5_draft, 3, none)
abbrev rX5_draft (n1 : Nat) : ZR := (1, 20, n1)
theorem kX5_draft : z_k mX5_draft 2 := ⟨by decide +kernel, z_mem3 30 rfl rfl, z_mem1 3 rfl rfl, by decide +kernel, by decide +kernel, by decide +kernel⟩
theorem iX5_draft : Cond.instanceMethod yX5_draft ∈ z_us := z_mem3 28 rfl rfl
theorem sX5_draft : Cond.selects RX5 yX5_draft yX5_draft ∈ z_us := z_mem3 29 rfl rfl
abbrev mX5_draftSlope : ZT := (yX5_draftSlope, cX5_draftSlope, 4, none)
abbrev rX5_draftSlope (n1 : Nat) : ZR := (2, 42, n1)
theorem kX5_draftSlope : z_k mX5_draftSlope 2 := ⟨by decide +kernel, z_mem3 23 rfl rfl, z_mem1 3 rfl rfl, by decide +kernel, by decide +kernel, by decide +kernel⟩
theorem iX5_draftSlope : Cond.instanceMethod yX5_draftSlope ∈ z_us := z_mem3 21 rfl rfl
theorem sX5_draftSlope : Cond.selects RX5 yX5_draftSlope yX5_draftSlope ∈ z_us := z_mem3 22 rfl rfl
abbrev mX5_draftBoth : ZT := (yX5_draftBoth, cX5_draftBoth, 5, (some .boolean))
abbrev rX5_draftBoth (n1 : Nat) : ZR := (2, 43, n1)
theorem kX5_draftBoth : z_k mX5_draftBoth 2 := ⟨by decide +kernel, z_mem3 60 rfl rfl, z_mem1 3 rfl rfl, by decide +kernel, by decide +kernel, by decide +kernel⟩
theorem iX5_draftBoth : Cond.instanceMethod yX5_draftBoth ∈ z_us := z_mem3 58 rfl rfl
theorem sX5_draftBoth : Cond.selects RX5 yX5_draftBoth yX5_draftBoth ∈ z_us := z_mem3 59 rfl rfl
abbrev mX5_keepDraft : ZT := (yX5_keepDraft, cX5_keepDraft, 1, (some .int))
abbrev rX5_keepDraft (n1 : Nat) : ZR := (1, 20, n1)
theorem kX5_keepDraft : z_k mX5_keepDraft 0 := ⟨by decide +kernel, z_mem3 35 rfl rfl, z_mem1 3 rfl rfl, by decide +kernel, by decide +kernel, by decide +kernel⟩
theorem iX5_keepDraft : Cond.instanceMethod yX5_keepDraft ∈ z_us := z_mem3 33 rfl rfl
theorem sX5_keepDraft : Cond.selects RX5 yX5_keepDraft yX5_keepDraft ∈ z_us := z_mem3 34 rfl rfl
abbrev mX6_init : ZT := (yX6_init, cX6_init, 3, none)
abbrev rX6_init (n1 : Nat) : ZR := (1, 21, n1)
theorem kX6_init : z_k mX6_init 1 := ⟨by decide +kernel, z_mem1 82 rfl rfl, z_mem1 4 rfl rfl, by decide +kernel, by decide +kernel, by decide +kernel⟩
theorem iX6_init : Cond.instanceMethod yX6_init ∈ z_us := z_mem1 81 rfl rfl
abbrev mX6_clear : ZT := (yX6_clear, cX6_clear, 1, none)
abbrev rX6_clear (n1 : Nat) : ZR := (0, 0, n1)
theorem kX6_clear : z_k mX6_clear 0 := ⟨by decide +kernel, z_mem2 194 rfl rfl, z_mem1 4 rfl rfl, by decide +kernel, by decide +kernel, by decide +kernel⟩
theorem iX6_clear : Cond.instanceMethod yX6_clear ∈ z_us := z_mem2 192 rfl rfl
theorem sX6_clear : Cond.selects RX6 yX6_clear yX6_clear ∈ z_us := z_mem2 193 rfl rfl
abbrev mX6_has : ZT := (yX6_has, cX6_has, 2, (some .boolean))
abbrev rX6_has (n1 : Nat) : ZR := (0, 0, n1)
theorem kX6_has : z_k mX6_has 1 := ⟨by decide +kernel, z_mem2 237 rfl rfl, z_mem1 4 rfl rfl, by decide +kernel, by decide +kernel, by decide +kernel⟩
theorem iX6_has : Cond.instanceMethod yX6_has ∈ z_us := z_mem2 235 rfl rfl
theorem sX6_has : Cond.selects RX6 yX6_has yX6_has ∈ z_us := z_mem2 236 rfl rfl
abbrev mX6_holds : ZT := (yX6_holds, cX6_holds, 4, (some .boolean))
abbrev rX6_holds (n1 : Nat) : ZR := (0, 0, n1)
theorem kX6_holds : z_k mX6_holds 2 := ⟨by decide +kernel, z_mem2 211 rfl rfl, z_mem1 4 rfl rfl, by decide +kernel, by decide +kernel, by decide +kernel⟩
theorem iX6_holds : Cond.instanceMethod yX6_holds ∈ z_us := z_mem2 209 rfl rfl
theorem sX6_holds : Cond.selects RX6 yX6_holds yX6_holds ∈ z_us := z_mem2 210 rfl rfl
abbrev mX6_add : ZT := (yX6_add, cX6_add, 3, none)
abbrev rX6_add (n1 : Nat) : ZR := (0, 0, n1)
theorem kX6_add : z_k mX6_add 2 := ⟨by decide +kernel, z_mem2 219 rfl rfl, z_mem1 4 rfl rfl, by decide +kernel, by decide +kernel, by decide +kernel⟩
theorem iX6_add : Cond.instanceMethod yX6_add ∈ z_us := z_mem2 217 rfl rfl
theorem sX6_add : Cond.selects RX6 yX6_add yX6_add ∈ z_us := z_mem2 218 rfl rfl
abbrev mX6_remove : ZT := (yX6_remove, cX6_remove, 3, none)
abbrev rX6_remove (n1 : Nat) : ZR := (1, 21, n1)
theorem kX6_remove : z_k mX6_remove 1 := ⟨by decide +kernel, z_mem3 6 rfl rfl, z_mem1 4 rfl rfl, by decide +kernel, by decide +kernel, by decide +kernel⟩
theorem iX6_remove : Cond.instanceMethod yX6_remove ∈ z_us := z_mem3 4 rfl rfl
theorem sX6_remove : Cond.selects RX6 yX6_remove yX6_remove ∈ z_us := z_mem3 5 rfl rfl
abbrev mX6_way : ZT := (yX6_way, cX6_way, 3, (some .int))
abbrev rX6_way (n1 : Nat) : ZR := (2, 44, n1)
theorem kX6_way : z_k mX6_way 2 := ⟨by decide +kernel, z_mem3 118 rfl rfl, z_mem1 4 rfl rfl, by decide +kernel, by decide +kernel, by decide +kernel⟩
theorem iX6_way : Cond.instanceMethod yX6_way ∈ z_us := z_mem3 116 rfl rfl
theorem sX6_way : Cond.selects RX6 yX6_way yX6_way ∈ z_us := z_mem3 117 rfl rfl
abbrev mX6_wayTo : ZT := (yX6_wayTo, cX6_wayTo, 4, (some .int))
abbrev rX6_wayTo (n1 : Nat) : ZR := (1, 21, n1)
theorem kX6_wayTo : z_k mX6_wayTo 3 := ⟨by decide +kernel, z_mem3 99 rfl rfl, z_mem1 4 rfl rfl, by decide +kernel, by decide +kernel, by decide +kernel⟩
theorem iX6_wayTo : Cond.instanceMethod yX6_wayTo ∈ z_us := z_mem3 97 rfl rfl
theorem sX6_wayTo : Cond.selects RX6 yX6_wayTo yX6_wayTo ∈ z_us := z_mem3 98 rfl rfl
abbrev mX7_init : ZT := (yX7_init, cX7_init, 1, none)
abbrev rX7_init (n1 : Nat) : ZR := (2, 43, n1)
theorem kX7_init : z_k mX7_init 0 := ⟨by decide +kernel, z_mem2 71 rfl rfl, z_mem1 14 rfl rfl, by decide +kernel, by decide +kernel, by decide +kernel⟩
theorem iX7_init : Cond.instanceMethod yX7_init ∈ z_us := z_mem2 70 rfl rfl
abbrev mX7_add : ZT := (yX7_add, cX7_add, 6, none)
abbrev rX7_add (n1 : Nat) : ZR := (1, 22, n1)
theorem kX7_add : z_k mX7_add 4 := ⟨by decide +kernel, z_mem2 215 rfl rfl, z_mem1 14 rfl rfl, by decide +kernel, by decide +kernel, by decide +kernel⟩
theorem iX7_add : Cond.instanceMethod yX7_add ∈ z_us := z_mem2 213 rfl rfl
theorem sX7_add : Cond.selects RX7 yX7_add yX7_add ∈ z_us := z_mem2 214 rfl rfl
abbrev mX7_remove : ZT := (yX7_remove, cX7_remove, 3, none)
abbrev rX7_remove (n1 : Nat) : ZR := (2, 43, n1)
theorem kX7_remove : z_k mX7_remove 1 := ⟨by decide +kernel, z_mem3 1 rfl rfl, z_mem1 14 rfl rfl, by decide +kernel, by decide +kernel, by decide +kernel⟩
theorem iX7_remove : Cond.instanceMethod yX7_remove ∈ z_us := z_mem2 239 rfl rfl
theorem sX7_remove : Cond.selects RX7 yX7_remove yX7_remove ∈ z_us := z_mem3 0 rfl rfl
abbrev mX8_init : ZT := (yX8_init, cX8_init, 2, none)
abbrev rX8_init (n1 : Nat) : ZR := (1, 20, n1)
theorem kX8_init : z_k mX8_init 0 := ⟨by decide +kernel, z_mem1 28 rfl rfl, z_mem1 2 rfl rfl, by decide +kernel, by decide +kernel, by decide +kernel⟩
theorem iX8_init : Cond.instanceMethod yX8_init ∈ z_us := z_mem1 27 rfl rfl
abbrev mX8_exists : ZT := (yX8_exists, cX8_exists, 2, (some .boolean))
abbrev rX8_exists (n1 : Nat) : ZR := (0, 0, n1)
theorem kX8_exists : z_k mX8_exists 1 := ⟨by decide +kernel, z_mem2 145 rfl rfl, z_mem1 2 rfl rfl, by decide +kernel, by decide +kernel, by decide +kernel⟩
theorem iX8_exists : Cond.instanceMethod yX8_exists ∈ z_us := z_mem2 143 rfl rfl
theorem sX8_exists : Cond.selects RX8 yX8_exists yX8_exists ∈ z_us := z_mem2 144 rfl rfl
abbrev mX8_holds : ZT := (yX8_holds, cX8_holds, 2, (some .boolean))
abbrev rX8_holds (n1 : Nat) : ZR := (1, 21, n1)
theorem kX8_holds : z_k mX8_holds 1 := ⟨by decide +kernel, z_mem2 158 rfl rfl, z_mem1 2 rfl rfl, by decide +kernel, by decide +kernel, by decide +kernel⟩
theorem iX8_holds : Cond.instanceMethod yX8_holds ∈ z_us := z_mem2 156 rfl rfl
theorem sX8_holds : Cond.selects RX8 yX8_holds yX8_holds ∈ z_us := z_mem2 157 rfl rfl
abbrev mX8_holdsNumber : ZT := (yX8_holdsNumber, cX8_holdsNumber, 3, (some .boolean))
abbrev rX8_holdsNumber (n1 : Nat) : ZR := (2, 42, n1)
theorem kX8_holdsNumber : z_k mX8_holdsNumber 2 := ⟨by decide +kernel, z_mem2 174 rfl rfl, z_mem1 2 rfl rfl, by decide +kernel, by decide +kernel, by decide +kernel⟩
theorem iX8_holdsNumber : Cond.instanceMethod yX8_holdsNumber ∈ z_us := z_mem2 172 rfl rfl
theorem sX8_holdsNumber : Cond.selects RX8 yX8_holdsNumber yX8_holdsNumber ∈ z_us := z_mem2 173 rfl rfl
abbrev mX8_lay : ZT := (yX8_lay, cX8_lay, 5, none)
abbrev rX8_lay (n1 : Nat) : ZR := (1, 21, n1)
theorem kX8_lay : z_k mX8_lay 3 := ⟨by decide +kernel, z_mem2 149 rfl rfl, z_mem1 2 rfl rfl, by decide +kernel, by decide +kernel, by decide +kernel⟩
theorem iX8_lay : Cond.instanceMethod yX8_lay ∈ z_us := z_mem2 147 rfl rfl
theorem sX8_lay : Cond.selects RX8 yX8_lay yX8_lay ∈ z_us := z_mem2 148 rfl rfl
abbrev mX8_empty : ZT := (yX8_empty, cX8_empty, 2, none)
abbrev rX8_empty (n1 : Nat) : ZR := (1, 21, n1)
theorem kX8_empty : z_k mX8_empty 1 := ⟨by decide +kernel, z_mem2 162 rfl rfl, z_mem1 2 rfl rfl, by decide +kernel, by decide +kernel, by decide +kernel⟩
theorem iX8_empty : Cond.instanceMethod yX8_empty ∈ z_us := z_mem2 160 rfl rfl
theorem sX8_empty : Cond.selects RX8 yX8_empty yX8_empty ∈ z_us := z_mem2 161 rfl rfl
abbrev mX8_put : ZT := (yX8_put, cX8_put, 5, (some .boolean))
abbrev rX8_put (n1 : Nat) : ZR := (3, 64, n1)
theorem kX8_put : z_k mX8_put 3 := ⟨by decide +kernel, z_mem2 170 rfl rfl, z_mem1 2 rfl rfl, by decide +kernel, by decide +kernel, by decide +kernel⟩
theorem iX8_put : Cond.instanceMethod yX8_put ∈ z_us := z_mem2 168 rfl rfl
theorem sX8_put : Cond.selects RX8 yX8_put yX8_put ∈ z_us := z_mem2 169 rfl rfl
abbrev mX8_countHeld : ZT := (yX8_countHeld, cX8_countHeld, 3, (some .int))
abbrev rX8_countHeld (n1 : Nat) : ZR := (2, 42, n1)
theorem kX8_countHeld : z_k mX8_countHeld 0 := ⟨by decide +kernel, z_mem4 110 rfl rfl, z_mem1 2 rfl rfl, by decide +kernel, by decide +kernel, by decide +kernel⟩
theorem iX8_countHeld : Cond.instanceMethod yX8_countHeld ∈ z_us := z_mem4 108 rfl rfl
theorem sX8_countHeld : Cond.selects RX8 yX8_countHeld yX8_countHeld ∈ z_us := z_mem4 109 rfl rfl
abbrev mX8_startReading : ZT := (yX8_startReading, cX8_startReading, 2, none)
abbrev rX8_startReading (n1 : Nat) : ZR := (0, 0, n1)
theorem kX8_startReading : z_k mX8_startReading 1 := ⟨by decide +kernel, z_mem2 186 rfl rfl, z_mem1 2 rfl rfl, by decide +kernel, by decide +kernel, by decide +kernel⟩
theorem iX8_startReading : Cond.instanceMethod yX8_startReading ∈ z_us := z_mem2 184 rfl rfl
theorem sX8_startReading : Cond.selects RX8 yX8_startReading yX8_startReading ∈ z_us := z_mem2 185 rfl rfl
abbrev mX8_readNext : ZT := (yX8_readNext, cX8_readNext, 5, (some .boolean))
abbrev rX8_readNext (n1 : Nat) : ZR := (3, 64, n1)
theorem kX8_readNext : z_k mX8_readNext 2 := ⟨by decide +kernel, z_mem2 198 rfl rfl, z_mem1 2 rfl rfl, by decide +kernel, by decide +kernel, by decide +kernel⟩
theorem iX8_readNext : Cond.instanceMethod yX8_readNext ∈ z_us := z_mem2 196 rfl rfl
theorem sX8_readNext : Cond.selects RX8 yX8_readNext yX8_readNext ∈ z_us := z_mem2 197 rfl rfl
abbrev mX8_readPlace : ZT := (yX8_readPlace, cX8_readPlace, 1, (some .boolean))
abbrev rX8_readPlace (n1 : Nat) : ZR := (4, 88, n1)
theorem kX8_readPlace : z_k mX8_readPlace 0 := ⟨by decide +kernel, z_mem2 206 rfl rfl, z_mem1 2 rfl rfl, by decide +kernel, by decide +kernel, by decide +kernel⟩
theorem iX8_readPlace : Cond.instanceMethod yX8_readPlace ∈ z_us := z_mem2 204 rfl rfl
theorem sX8_readPlace : Cond.selects RX8 yX8_readPlace yX8_readPlace ∈ z_us := z_mem2 205 rfl rfl
abbrev mX8_cut : ZT := (yX8_cut, cX8_cut, 3, (some .long))
abbrev rX8_cut (n1 : Nat) : ZR := (0, 0, n1)
theorem kX8_cut : z_k mX8_cut 2 := ⟨by decide +kernel, z_mem2 178 rfl rfl, z_mem1 2 rfl rfl, by decide +kernel, by decide +kernel, by decide +kernel⟩
theorem sX8_cut : Cond.static yX8_cut ∈ z_us := z_mem2 177 rfl rfl
abbrev mX9_init : ZT := (yX9_init, cX9_init, 1, none)
abbrev rX9_init (n1 : Nat) : ZR := (1, 20, n1)
theorem kX9_init : z_k mX9_init 0 := ⟨by decide +kernel, z_mem1 145 rfl rfl, z_mem1 8 rfl rfl, by decide +kernel, by decide +kernel, by decide +kernel⟩
theorem iX9_init : Cond.instanceMethod yX9_init ∈ z_us := z_mem1 144 rfl rfl
abbrev mX9_put : ZT := (yX9_put, cX9_put, 6, none)
abbrev rX9_put (n1 : Nat) : ZR := (1, 22, n1)
theorem kX9_put : z_k mX9_put 1 := ⟨by decide +kernel, z_mem2 38 rfl rfl, z_mem1 8 rfl rfl, by decide +kernel, by decide +kernel, by decide +kernel⟩
theorem iX9_put : Cond.instanceMethod yX9_put ∈ z_us := z_mem2 36 rfl rfl
theorem sX9_put : Cond.selects RX9 yX9_put yX9_put ∈ z_us := z_mem2 37 rfl rfl
abbrev mX9_lowest : ZT := (yX9_lowest, cX9_lowest, 1, (some .long))
abbrev rX9_lowest (n1 : Nat) : ZR := (0, 0, n1)
theorem kX9_lowest : z_k mX9_lowest 0 := ⟨by decide +kernel, z_mem3 162 rfl rfl, z_mem1 8 rfl rfl, by decide +kernel, by decide +kernel, by decide +kernel⟩
theorem iX9_lowest : Cond.instanceMethod yX9_lowest ∈ z_us := z_mem3 160 rfl rfl
theorem sX9_lowest : Cond.selects RX9 yX9_lowest yX9_lowest ∈ z_us := z_mem3 161 rfl rfl
abbrev mX9_copyFrom : ZT := (yX9_copyFrom, cX9_copyFrom, 4, none)
abbrev rX9_copyFrom (n1 : Nat) : ZR := (1, 21, n1)
theorem kX9_copyFrom : z_k mX9_copyFrom 1 := ⟨by decide +kernel, z_mem3 208 rfl rfl, z_mem1 8 rfl rfl, by decide +kernel, by decide +kernel, by decide +kernel⟩
theorem iX9_copyFrom : Cond.instanceMethod yX9_copyFrom ∈ z_us := z_mem3 206 rfl rfl
theorem sX9_copyFrom : Cond.selects RX9 yX9_copyFrom yX9_copyFrom ∈ z_us := z_mem3 207 rfl rfl
abbrev mX9_compareSize : ZT := (yX9_compareSize, cX9_compareSize, 3, (some .int))
abbrev rX9_compareSize (n1 : Nat) : ZR := (0, 0, n1)
theorem kX9_compareSize : z_k mX9_compareSize 1 := ⟨by decide +kernel, z_mem4 54 rfl rfl, z_mem1 8 rfl rfl, by decide +kernel, by decide +kernel, by decide +kernel⟩
theorem iX9_compareSize : Cond.instanceMethod yX9_compareSize ∈ z_us := z_mem4 52 rfl rfl
theorem sX9_compareSize : Cond.selects RX9 yX9_compareSize yX9_compareSize ∈ z_us := z_mem4 53 rfl rfl
abbrev mX9_multiply : ZT := (yX9_multiply, cX9_multiply, 11, none)
abbrev rX9_multiply (n1 : Nat) : ZR := (1, 22, n1)
theorem kX9_multiply : z_k mX9_multiply 2 := ⟨by decide +kernel, z_mem3 166 rfl rfl, z_mem1 8 rfl rfl, by decide +kernel, by decide +kernel, by decide +kernel⟩
theorem iX9_multiply : Cond.instanceMethod yX9_multiply ∈ z_us := z_mem3 164 rfl rfl
theorem sX9_multiply : Cond.selects RX9 yX9_multiply yX9_multiply ∈ z_us := z_mem3 165 rfl rfl
abbrev mX9_addTimes : ZT := (yX9_addTimes, cX9_addTimes, 13, none)
abbrev rX9_addTimes (n1 : Nat) : ZR := (1, 26, n1)
theorem kX9_addTimes : z_k mX9_addTimes 2 := ⟨by decide +kernel, z_mem3 170 rfl rfl, z_mem1 8 rfl rfl, by decide +kernel, by decide +kernel, by decide +kernel⟩
theorem iX9_addTimes : Cond.instanceMethod yX9_addTimes ∈ z_us := z_mem3 168 rfl rfl
theorem sX9_addTimes : Cond.selects RX9 yX9_addTimes yX9_addTimes ∈ z_us := z_mem3 169 rfl rfl
abbrev mX9_complement : ZT := (yX9_complement, cX9_complement, 7, none)
abbrev rX9_complement (n1 : Nat) : ZR := (0, 0, n1)
theorem kX9_complement : z_k mX9_complement 1 := ⟨by decide +kernel, z_mem3 176 rfl rfl, z_mem1 8 rfl rfl, by decide +kernel, by decide +kernel, by decide +kernel⟩
theorem iX9_complement : Cond.instanceMethod yX9_complement ∈ z_us := z_mem3 175 rfl rfl
theorem sX9_complement : Cond.selects RX9 yX9_complement yX9_complement ∈ z_us := z_memp 13 rfl rfl
abbrev mX9_clear : ZT := (yX9_clear, cX9_clear, 2, none)
abbrev rX9_clear (n1 : Nat) : ZR := (0, 0, n1)
theorem kX9_clear : z_k mX9_clear 0 := ⟨by decide +kernel, z_mem2 42 rfl rfl, z_mem1 8 rfl rfl, by decide +kernel, by decide +kernel, by decide +kernel⟩
theorem iX9_clear : Cond.instanceMethod yX9_clear ∈ z_us := z_mem2 41 rfl rfl
theorem sX9_clear : Cond.selects RX9 yX9_clear yX9_clear ∈ z_us := z_memp 0 rfl rfl
abbrev mX9_trim : ZT := (yX9_trim, cX9_trim, 3, none)
abbrev rX9_trim (n1 : Nat) : ZR := (0, 0, n1)
theorem kX9_trim : z_k mX9_trim 2 := ⟨by decide +kernel, z_mem2 53 rfl rfl, z_mem1 8 rfl rfl, by decide +kernel, by decide +kernel, by decide +kernel⟩
theorem iX9_trim : Cond.instanceMethod yX9_trim ∈ z_us := z_mem2 52 rfl rfl
theorem sX9_trim : Cond.selects RX9 yX9_trim yX9_trim ∈ z_us := z_memp 1 rfl rfl
abbrev mX10_init : ZT := (yX10_init, cX10_init, 1, none)
abbrev rX10_init (n1 : Nat) : ZR := (2, 40, n1)
theorem kX10_init : z_k mX10_init 0 := ⟨by decide +kernel, z_mem2 8 rfl rfl, z_mem1 11 rfl rfl, by decide +kernel, by decide +kernel, by decide +kernel⟩
theorem iX10_init : Cond.instanceMethod yX10_init ∈ z_us := z_mem2 7 rfl rfl
abbrev mX10_isLarger : ZT := (yX10_isLarger, cX10_isLarger, 3, (some .boolean))
abbrev rX10_isLarger (n1 : Nat) : ZR := (2, 52, n1)
theorem kX10_isLarger : z_k mX10_isLarger 2 := ⟨by decide +kernel, z_mem4 49 rfl rfl, z_mem1 11 rfl rfl, by decide +kernel, by decide +kernel, by decide +kernel⟩
theorem iX10_isLarger : Cond.instanceMethod yX10_isLarger ∈ z_us := z_mem4 47 rfl rfl
theorem sX10_isLarger : Cond.selects RX10 yX10_isLarger yX10_isLarger ∈ z_us := z_mem4 48 rfl rfl
abbrev mX10_reduce : ZT := (yX10_reduce, cX10_reduce, 3, none)
abbrev rX10_reduce (n1 : Nat) : ZR := (4, 105, n1)
theorem kX10_reduce : z_k mX10_reduce 1 := ⟨by decide +kernel, z_mem4 5 rfl rfl, z_mem1 11 rfl rfl, by decide +kernel, by decide +kernel, by decide +kernel⟩
theorem iX10_reduce : Cond.instanceMethod yX10_reduce ∈ z_us := z_mem4 3 rfl rfl
theorem sX10_reduce : Cond.selects RX10 yX10_reduce yX10_reduce ∈ z_us := z_mem4 4 rfl rfl
abbrev mX10_findShared : ZT := (yX10_findShared, cX10_findShared, 6, (some (.object "NeighbourBoard$Whole")))
abbrev rX10_findShared (n1 : Nat) : ZR := (3, 80, n1)
theorem kX10_findShared : z_k mX10_findShared 1 := ⟨by decide +kernel, z_mem4 9 rfl rfl, z_mem1 11 rfl rfl, by decide +kernel, by decide +kernel, by decide +kernel⟩
theorem iX10_findShared : Cond.instanceMethod yX10_findShared ∈ z_us := z_mem4 8 rfl rfl
theorem sX10_findShared : Cond.selects RX10 yX10_findShared yX10_findShared ∈ z_us := z_memp 22 rfl rfl
abbrev mX11_init : ZT := (yX11_init, cX11_init, 1, none)
abbrev rX11_init (n1 : Nat) : ZR := (3, 67, n1)
theorem kX11_init : z_k mX11_init 0 := ⟨by decide +kernel, z_mem1 20 rfl rfl, z_mem1 1 rfl rfl, by decide +kernel, by decide +kernel, by decide +kernel⟩
theorem iX11_init : Cond.instanceMethod yX11_init ∈ z_us := z_mem1 19 rfl rfl
abbrev mX11_row : ZT := (yX11_row, cX11_row, 4, (some .int))
abbrev rX11_row (n1 : Nat) : ZR := (2, 45, n1)
theorem kX11_row : z_k mX11_row 3 := ⟨by decide +kernel, z_mem2 141 rfl rfl, z_mem1 1 rfl rfl, by decide +kernel, by decide +kernel, by decide +kernel⟩
theorem iX11_row : Cond.instanceMethod yX11_row ∈ z_us := z_mem2 139 rfl rfl
theorem sX11_row : Cond.selects RX11 yX11_row yX11_row ∈ z_us := z_mem2 140 rfl rfl
abbrev mX11_tear : ZT := (yX11_tear, cX11_tear, 2, (some .boolean))
abbrev rX11_tear (n1 : Nat) : ZR := (2, 42, n1)
theorem kX11_tear : z_k mX11_tear 1 := ⟨by decide +kernel, z_mem2 154 rfl rfl, z_mem1 1 rfl rfl, by decide +kernel, by decide +kernel, by decide +kernel⟩
theorem iX11_tear : Cond.instanceMethod yX11_tear ∈ z_us := z_mem2 152 rfl rfl
theorem sX11_tear : Cond.selects RX11 yX11_tear yX11_tear ∈ z_us := z_mem2 153 rfl rfl
abbrev mX11_write : ZT := (yX11_write, cX11_write, 5, (some .int))
abbrev rX11_write (n1 : Nat) : ZR := (4, 88, n1)
theorem kX11_write : z_k mX11_write 3 := ⟨by decide +kernel, z_mem2 166 rfl rfl, z_mem1 1 rfl rfl, by decide +kernel, by decide +kernel, by decide +kernel⟩
theorem iX11_write : Cond.instanceMethod yX11_write ∈ z_us := z_mem2 164 rfl rfl
theorem sX11_write : Cond.selects RX11 yX11_write yX11_write ∈ z_us := z_mem2 165 rfl rfl
abbrev mX11_seen : ZT := (yX11_seen, cX11_seen, 3, (some .int))
abbrev rX11_seen (n1 : Nat) : ZR := (7, 151, n1)
theorem kX11_seen : z_k mX11_seen 1 := ⟨by decide +kernel, z_mem2 182 rfl rfl, z_mem1 1 rfl rfl, by decide +kernel, by decide +kernel, by decide +kernel⟩
theorem iX11_seen : Cond.instanceMethod yX11_seen ∈ z_us := z_mem2 180 rfl rfl
theorem sX11_seen : Cond.selects RX11 yX11_seen yX11_seen ∈ z_us := z_mem2 181 rfl rfl
abbrev mX11_see : ZT := (yX11_see, cX11_see, 5, (some .int))
abbrev rX11_see (n1 : Nat) : ZR := (2, 47, n1)
theorem kX11_see : z_k mX11_see 4 := ⟨by decide +kernel, z_mem2 223 rfl rfl, z_mem1 1 rfl rfl, by decide +kernel, by decide +kernel, by decide +kernel⟩
theorem iX11_see : Cond.instanceMethod yX11_see ∈ z_us := z_mem2 221 rfl rfl
theorem sX11_see : Cond.selects RX11 yX11_see yX11_see ∈ z_us := z_mem2 222 rfl rfl
abbrev mX11_drop : ZT := (yX11_drop, cX11_drop, 2, (some .int))
abbrev rX11_drop (n1 : Nat) : ZR := (3, 65, n1)
theorem kX11_drop : z_k mX11_drop 1 := ⟨by decide +kernel, z_mem2 233 rfl rfl, z_mem1 1 rfl rfl, by decide +kernel, by decide +kernel, by decide +kernel⟩
theorem iX11_drop : Cond.instanceMethod yX11_drop ∈ z_us := z_mem2 231 rfl rfl
theorem sX11_drop : Cond.selects RX11 yX11_drop yX11_drop ∈ z_us := z_mem2 232 rfl rfl
abbrev mX11_straight : ZT := (yX11_straight, cX11_straight, 2, (some .int))
abbrev rX11_straight (n1 : Nat) : ZR := (4, 87, n1)
theorem kX11_straight : z_k mX11_straight 1 := ⟨by decide +kernel, z_mem3 11 rfl rfl, z_mem1 1 rfl rfl, by decide +kernel, by decide +kernel, by decide +kernel⟩
theorem iX11_straight : Cond.instanceMethod yX11_straight ∈ z_us := z_mem3 9 rfl rfl
theorem sX11_straight : Cond.selects RX11 yX11_straight yX11_straight ∈ z_us := z_mem3 10 rfl rfl
abbrev mX11_capped : ZT := (yX11_capped, cX11_capped, 3, (some .int))
abbrev rX11_capped (n1 : Nat) : ZR := (4, 87, n1)
theorem kX11_capped : z_k mX11_capped 2 := ⟨by decide +kernel, z_mem3 39 rfl rfl, z_mem1 1 rfl rfl, by decide +kernel, by decide +kernel, by decide +kernel⟩
theorem iX11_capped : Cond.instanceMethod yX11_capped ∈ z_us := z_mem3 37 rfl rfl
theorem sX11_capped : Cond.selects RX11 yX11_capped yX11_capped ∈ z_us := z_mem3 38 rfl rfl
abbrev mX11_table : ZT := (yX11_table, cX11_table, 2, (some .int))
abbrev rX11_table (n1 : Nat) : ZR := (5, 110, n1)
theorem kX11_table : z_k mX11_table 1 := ⟨by decide +kernel, z_mem3 43 rfl rfl, z_mem1 1 rfl rfl, by decide +kernel, by decide +kernel, by decide +kernel⟩
theorem iX11_table : Cond.instanceMethod yX11_table ∈ z_us := z_mem3 41 rfl rfl
theorem sX11_table : Cond.selects RX11 yX11_table yX11_table ∈ z_us := z_mem3 42 rfl rfl
abbrev mX11_sum : ZT := (yX11_sum, cX11_sum, 3, (some .int))
abbrev rX11_sum (n1 : Nat) : ZR := (3, 67, n1)
theorem kX11_sum : z_k mX11_sum 2 := ⟨by decide +kernel, z_mem3 52 rfl rfl, z_mem1 1 rfl rfl, by decide +kernel, by decide +kernel, by decide +kernel⟩
theorem iX11_sum : Cond.instanceMethod yX11_sum ∈ z_us := z_mem3 50 rfl rfl
theorem sX11_sum : Cond.selects RX11 yX11_sum yX11_sum ∈ z_us := z_mem3 51 rfl rfl
abbrev mX11_unlike : ZT := (yX11_unlike, cX11_unlike, 3, (some .int))
abbrev rX11_unlike (n1 : Nat) : ZR := (2, 43, n1)
theorem kX11_unlike : z_k mX11_unlike 2 := ⟨by decide +kernel, z_mem3 69 rfl rfl, z_mem1 1 rfl rfl, by decide +kernel, by decide +kernel, by decide +kernel⟩
theorem iX11_unlike : Cond.instanceMethod yX11_unlike ∈ z_us := z_mem3 67 rfl rfl
theorem sX11_unlike : Cond.selects RX11 yX11_unlike yX11_unlike ∈ z_us := z_mem3 68 rfl rfl
abbrev mX11_use : ZT := (yX11_use, cX11_use, 2, (some .boolean))
abbrev rX11_use (n1 : Nat) : ZR := (1, 21, n1)
theorem kX11_use : z_k mX11_use 1 := ⟨by decide +kernel, z_mem3 74 rfl rfl, z_mem1 1 rfl rfl, by decide +kernel, by decide +kernel, by decide +kernel⟩
theorem iX11_use : Cond.instanceMethod yX11_use ∈ z_us := z_mem3 72 rfl rfl
theorem sX11_use : Cond.selects RX11 yX11_use yX11_use ∈ z_us := z_mem3 73 rfl rfl
abbrev mX11_nearest : ZT := (yX11_nearest, cX11_nearest, 2, (some .boolean))
abbrev rX11_nearest (n1 : Nat) : ZR := (1, 22, n1)
theorem kX11_nearest : z_k mX11_nearest 1 := ⟨by decide +kernel, z_mem3 78 rfl rfl, z_mem1 1 rfl rfl, by decide +kernel, by decide +kernel, by decide +kernel⟩
theorem iX11_nearest : Cond.instanceMethod yX11_nearest ∈ z_us := z_mem3 76 rfl rfl
theorem sX11_nearest : Cond.selects RX11 yX11_nearest yX11_nearest ∈ z_us := z_mem3 77 rfl rfl
abbrev mX11_ask : ZT := (yX11_ask, cX11_ask, 3, (some .int))
abbrev rX11_ask (n1 : Nat) : ZR := (6, 157, n1)
theorem kX11_ask : z_k mX11_ask 2 := ⟨by decide +kernel, z_mem3 82 rfl rfl, z_mem1 1 rfl rfl, by decide +kernel, by decide +kernel, by decide +kernel⟩
theorem iX11_ask : Cond.instanceMethod yX11_ask ∈ z_us := z_mem3 80 rfl rfl
theorem sX11_ask : Cond.selects RX11 yX11_ask yX11_ask ∈ z_us := z_mem3 81 rfl rfl
abbrev mX11_mean : ZT := (yX11_mean, cX11_mean, 2, (some .int))
abbrev rX11_mean (n1 : Nat) : ZR := (6, 157, n1)
theorem kX11_mean : z_k mX11_mean 1 := ⟨by decide +kernel, z_mem3 228 rfl rfl, z_mem1 1 rfl rfl, by decide +kernel, by decide +kernel, by decide +kernel⟩
theorem iX11_mean : Cond.instanceMethod yX11_mean ∈ z_us := z_mem3 226 rfl rfl
theorem sX11_mean : Cond.selects RX11 yX11_mean yX11_mean ∈ z_us := z_mem3 227 rfl rfl
abbrev mX11_answer : ZT := (yX11_answer, cX11_answer, 2, (some .boolean))
abbrev rX11_answer (n1 : Nat) : ZR := (6, 149, n1)
theorem kX11_answer : z_k mX11_answer 1 := ⟨by decide +kernel, z_mem3 236 rfl rfl, z_mem1 1 rfl rfl, by decide +kernel, by decide +kernel, by decide +kernel⟩
theorem iX11_answer : Cond.instanceMethod yX11_answer ∈ z_us := z_mem3 234 rfl rfl
theorem sX11_answer : Cond.selects RX11 yX11_answer yX11_answer ∈ z_us := z_mem3 235 rfl rfl
abbrev mX11_leftOut : ZT := (yX11_leftOut, cX11_leftOut, 2, (some .boolean))
abbrev rX11_leftOut (n1 : Nat) : ZR := (6, 160, n1)
theorem kX11_leftOut : z_k mX11_leftOut 1 := ⟨by decide +kernel, z_mem4 20 rfl rfl, z_mem1 1 rfl rfl, by decide +kernel, by decide +kernel, by decide +kernel⟩
theorem iX11_leftOut : Cond.instanceMethod yX11_leftOut ∈ z_us := z_mem4 18 rfl rfl
theorem sX11_leftOut : Cond.selects RX11 yX11_leftOut yX11_leftOut ∈ z_us := z_mem4 19 rfl rfl
abbrev mX11_worst : ZT := (yX11_worst, cX11_worst, 1, (some .int))
abbrev rX11_worst (n1 : Nat) : ZR := (7, 183, n1)
theorem kX11_worst : z_k mX11_worst 0 := ⟨by decide +kernel, z_mem4 41 rfl rfl, z_mem1 1 rfl rfl, by decide +kernel, by decide +kernel, by decide +kernel⟩
theorem iX11_worst : Cond.instanceMethod yX11_worst ∈ z_us := z_mem4 39 rfl rfl
theorem sX11_worst : Cond.selects RX11 yX11_worst yX11_worst ∈ z_us := z_mem4 40 rfl rfl
abbrev mX11_best : ZT := (yX11_best, cX11_best, 3, (some .int))
abbrev rX11_best (n1 : Nat) : ZR := (7, 183, n1)
theorem kX11_best : z_k mX11_best 0 := ⟨by decide +kernel, z_mem4 63 rfl rfl, z_mem1 1 rfl rfl, by decide +kernel, by decide +kernel, by decide +kernel⟩
theorem iX11_best : Cond.instanceMethod yX11_best ∈ z_us := z_mem4 61 rfl rfl
theorem sX11_best : Cond.selects RX11 yX11_best yX11_best ∈ z_us := z_mem4 62 rfl rfl
abbrev mX11_allowed : ZT := (yX11_allowed, cX11_allowed, 2, (some .int))
abbrev rX11_allowed (n1 : Nat) : ZR := (5, 139, n1)
theorem kX11_allowed : z_k mX11_allowed 1 := ⟨by decide +kernel, z_mem4 67 rfl rfl, z_mem1 1 rfl rfl, by decide +kernel, by decide +kernel, by decide +kernel⟩
theorem iX11_allowed : Cond.instanceMethod yX11_allowed ∈ z_us := z_mem4 65 rfl rfl
theorem sX11_allowed : Cond.selects RX11 yX11_allowed yX11_allowed ∈ z_us := z_mem4 66 rfl rfl
abbrev mX11_pairs : ZT := (yX11_pairs, cX11_pairs, 6, (some .int))
abbrev rX11_pairs (n1 : Nat) : ZR := (3, 66, n1)
theorem kX11_pairs : z_k mX11_pairs 2 := ⟨by decide +kernel, z_mem4 81 rfl rfl, z_mem1 1 rfl rfl, by decide +kernel, by decide +kernel, by decide +kernel⟩
theorem iX11_pairs : Cond.instanceMethod yX11_pairs ∈ z_us := z_mem4 79 rfl rfl
theorem sX11_pairs : Cond.selects RX11 yX11_pairs yX11_pairs ∈ z_us := z_mem4 80 rfl rfl
abbrev mX11_band : ZT := (yX11_band, cX11_band, 10, (some .boolean))
abbrev rX11_band (n1 : Nat) : ZR := (6, 149, n1)
theorem kX11_band : z_k mX11_band 2 := ⟨by decide +kernel, z_mem4 86 rfl rfl, z_mem1 1 rfl rfl, by decide +kernel, by decide +kernel, by decide +kernel⟩
theorem iX11_band : Cond.instanceMethod yX11_band ∈ z_us := z_mem4 84 rfl rfl
theorem sX11_band : Cond.selects RX11 yX11_band yX11_band ∈ z_us := z_mem4 85 rfl rfl
abbrev mX11_look : ZT := (yX11_look, cX11_look, 2, (some .int))
abbrev rX11_look (n1 : Nat) : ZR := (1, 21, n1)
theorem kX11_look : z_k mX11_look 1 := ⟨by decide +kernel, z_mem4 93 rfl rfl, z_mem1 1 rfl rfl, by decide +kernel, by decide +kernel, by decide +kernel⟩
theorem iX11_look : Cond.instanceMethod yX11_look ∈ z_us := z_mem4 91 rfl rfl
theorem sX11_look : Cond.selects RX11 yX11_look yX11_look ∈ z_us := z_mem4 92 rfl rfl
abbrev mX11_part : ZT := (yX11_part, cX11_part, 4, (some .int))
abbrev rX11_part (n1 : Nat) : ZR := (0, 0, n1)
theorem kX11_part : z_k mX11_part 2 := ⟨by decide +kernel, z_mem4 98 rfl rfl, z_mem1 1 rfl rfl, by decide +kernel, by decide +kernel, by decide +kernel⟩
theorem iX11_part : Cond.instanceMethod yX11_part ∈ z_us := z_mem4 96 rfl rfl
theorem sX11_part : Cond.selects RX11 yX11_part yX11_part ∈ z_us := z_mem4 97 rfl rfl
abbrev mX11_told : ZT := (yX11_told, cX11_told, 3, (some .int))
abbrev rX11_told (n1 : Nat) : ZR := (1, 21, n1)
theorem kX11_told : z_k mX11_told 2 := ⟨by decide +kernel, z_mem4 102 rfl rfl, z_mem1 1 rfl rfl, by decide +kernel, by decide +kernel, by decide +kernel⟩
theorem iX11_told : Cond.instanceMethod yX11_told ∈ z_us := z_mem4 100 rfl rfl
theorem sX11_told : Cond.selects RX11 yX11_told yX11_told ∈ z_us := z_mem4 101 rfl rfl
abbrev mX11_count : ZT := (yX11_count, cX11_count, 2, (some .int))
abbrev rX11_count (n1 : Nat) : ZR := (3, 64, n1)
theorem kX11_count : z_k mX11_count 1 := ⟨by decide +kernel, z_mem4 106 rfl rfl, z_mem1 1 rfl rfl, by decide +kernel, by decide +kernel, by decide +kernel⟩
theorem iX11_count : Cond.instanceMethod yX11_count ∈ z_us := z_mem4 104 rfl rfl
theorem sX11_count : Cond.selects RX11 yX11_count yX11_count ∈ z_us := z_mem4 105 rfl rfl
abbrev mX11_isWithin : ZT := (yX11_isWithin, cX11_isWithin, 3, (some .boolean))
abbrev rX11_isWithin (n1 : Nat) : ZR := (0, 0, n1)
theorem kX11_isWithin : z_k mX11_isWithin 3 := ⟨by decide +kernel, z_mem2 229 rfl rfl, z_mem1 1 rfl rfl, by decide +kernel, by decide +kernel, by decide +kernel⟩
theorem sX11_isWithin : Cond.static yX11_isWithin ∈ z_us := z_mem2 228 rfl rfl
abbrev mX11_isPlace : ZT := (yX11_isPlace, cX11_isPlace, 2, (some .boolean))
abbrev rX11_isPlace (n1 : Nat) : ZR := (1, 22, n1)
theorem kX11_isPlace : z_k mX11_isPlace 2 := ⟨by decide +kernel, z_mem2 226 rfl rfl, z_mem1 1 rfl rfl, by decide +kernel, by decide +kernel, by decide +kernel⟩
theorem sX11_isPlace : Cond.static yX11_isPlace ∈ z_us := z_mem2 225 rfl rfl
abbrev mX11_addSloped : ZT := (yX11_addSloped, cX11_addSloped, 3, (some .int))
abbrev rX11_addSloped (n1 : Nat) : ZR := (3, 65, n1)
theorem kX11_addSloped : z_k mX11_addSloped 2 := ⟨by decide +kernel, z_mem3 15 rfl rfl, z_mem1 1 rfl rfl, by decide +kernel, by decide +kernel, by decide +kernel⟩
theorem iX11_addSloped : Cond.instanceMethod yX11_addSloped ∈ z_us := z_mem3 14 rfl rfl
theorem sX11_addSloped : Cond.selects RX11 yX11_addSloped yX11_addSloped ∈ z_us := z_memp 4 rfl rfl
abbrev mX11_readSights : ZT := (yX11_readSights, cX11_readSights, 3, (some .boolean))
abbrev rX11_readSights (n1 : Nat) : ZR := (6, 129, n1)
theorem kX11_readSights : z_k mX11_readSights 0 := ⟨by decide +kernel, z_mem2 190 rfl rfl, z_mem1 1 rfl rfl, by decide +kernel, by decide +kernel, by decide +kernel⟩
theorem iX11_readSights : Cond.instanceMethod yX11_readSights ∈ z_us := z_mem2 189 rfl rfl
theorem sX11_readSights : Cond.selects RX11 yX11_readSights yX11_readSights ∈ z_us := z_memp 2 rfl rfl
abbrev mX11_readSight : ZT := (yX11_readSight, cX11_readSight, 2, (some .boolean))
abbrev rX11_readSight (n1 : Nat) : ZR := (5, 108, n1)
theorem kX11_readSight : z_k mX11_readSight 0 := ⟨by decide +kernel, z_mem2 202 rfl rfl, z_mem1 1 rfl rfl, by decide +kernel, by decide +kernel, by decide +kernel⟩
theorem iX11_readSight : Cond.instanceMethod yX11_readSight ∈ z_us := z_mem2 201 rfl rfl
theorem sX11_readSight : Cond.selects RX11 yX11_readSight yX11_readSight ∈ z_us := z_memp 3 rfl rfl
abbrev mX11_readTable : ZT := (yX11_readTable, cX11_readTable, 3, (some .boolean))
abbrev rX11_readTable (n1 : Nat) : ZR := (4, 88, n1)
theorem kX11_readTable : z_k mX11_readTable 0 := ⟨by decide +kernel, z_mem3 47 rfl rfl, z_mem1 1 rfl rfl, by decide +kernel, by decide +kernel, by decide +kernel⟩
theorem iX11_readTable : Cond.instanceMethod yX11_readTable ∈ z_us := z_mem3 46 rfl rfl
theorem sX11_readTable : Cond.selects RX11 yX11_readTable yX11_readTable ∈ z_us := z_memp 5 rfl rfl
abbrev mX11_readAsked : ZT := (yX11_readAsked, cX11_readAsked, 3, (some .boolean))
abbrev rX11_readAsked (n1 : Nat) : ZR := (5, 108, n1)
theorem kX11_readAsked : z_k mX11_readAsked 0 := ⟨by decide +kernel, z_mem3 232 rfl rfl, z_mem1 1 rfl rfl, by decide +kernel, by decide +kernel, by decide +kernel⟩
theorem iX11_readAsked : Cond.instanceMethod yX11_readAsked ∈ z_us := z_mem3 231 rfl rfl
theorem sX11_readAsked : Cond.selects RX11 yX11_readAsked yX11_readAsked ∈ z_us := z_memp 20 rfl rfl
abbrev mX11_canGuess : ZT := (yX11_canGuess, cX11_canGuess, 1, (some .boolean))
abbrev rX11_canGuess (n1 : Nat) : ZR := (0, 0, n1)
theorem kX11_canGuess : z_k mX11_canGuess 0 := ⟨by decide +kernel, z_mem3 86 rfl rfl, z_mem1 1 rfl rfl, by decide +kernel, by decide +kernel, by decide +kernel⟩
theorem iX11_canGuess : Cond.instanceMethod yX11_canGuess ∈ z_us := z_mem3 85 rfl rfl
theorem sX11_canGuess : Cond.selects RX11 yX11_canGuess yX11_canGuess ∈ z_us := z_memp 6 rfl rfl
abbrev mX11_guessForAsked : ZT := (yX11_guessForAsked, cX11_guessForAsked, 1, (some .int))
abbrev rX11_guessForAsked (n1 : Nat) : ZR := (5, 137, n1)
theorem kX11_guessForAsked : z_k mX11_guessForAsked 0 := ⟨by decide +kernel, z_mem3 91 rfl rfl, z_mem1 1 rfl rfl, by decide +kernel, by decide +kernel, by decide +kernel⟩
theorem iX11_guessForAsked : Cond.instanceMethod yX11_guessForAsked ∈ z_us := z_mem3 90 rfl rfl
theorem sX11_guessForAsked : Cond.selects RX11 yX11_guessForAsked yX11_guessForAsked ∈ z_us := z_memp 7 rfl rfl
abbrev mX11_leaveOut : ZT := (yX11_leaveOut, cX11_leaveOut, 4, (some .boolean))
abbrev rX11_leaveOut (n1 : Nat) : ZR := (5, 137, n1)
theorem kX11_leaveOut : z_k mX11_leaveOut 2 := ⟨by decide +kernel, z_mem4 24 rfl rfl, z_mem1 1 rfl rfl, by decide +kernel, by decide +kernel, by decide +kernel⟩
theorem iX11_leaveOut : Cond.instanceMethod yX11_leaveOut ∈ z_us := z_mem4 23 rfl rfl
theorem sX11_leaveOut : Cond.selects RX11 yX11_leaveOut yX11_leaveOut ∈ z_us := z_memp 23 rfl rfl
abbrev mX11_findWorst : ZT := (yX11_findWorst, cX11_findWorst, 4, (some .int))
abbrev rX11_findWorst (n1 : Nat) : ZR := (6, 160, n1)
theorem kX11_findWorst : z_k mX11_findWorst 1 := ⟨by decide +kernel, z_mem4 45 rfl rfl, z_mem1 1 rfl rfl, by decide +kernel, by decide +kernel, by decide +kernel⟩
theorem iX11_findWorst : Cond.instanceMethod yX11_findWorst ∈ z_us := z_mem4 44 rfl rfl
theorem sX11_findWorst : Cond.selects RX11 yX11_findWorst yX11_findWorst ∈ z_us := z_memp 24 rfl rfl
abbrev mX11_setResult : ZT := (yX11_setResult, cX11_setResult, 3, (some .boolean))
abbrev rX11_setResult (n1 : Nat) : ZR := (5, 127, n1)
theorem kX11_setResult : z_k mX11_setResult 2 := ⟨by decide +kernel, z_mem4 0 rfl rfl, z_mem1 1 rfl rfl, by decide +kernel, by decide +kernel, by decide +kernel⟩
theorem iX11_setResult : Cond.instanceMethod yX11_setResult ∈ z_us := z_mem3 239 rfl rfl
theorem sX11_setResult : Cond.selects RX11 yX11_setResult yX11_setResult ∈ z_us := z_memp 21 rfl rfl
abbrev mX12_init : ZT := (yX12_init, cX12_init, 1, none)
abbrev rX12_init (n1 : Nat) : ZR := (3, 73, n1)
theorem kX12_init : z_k mX12_init 0 := ⟨by decide +kernel, z_mem4 115 rfl rfl, z_mem1 15 rfl rfl, by decide +kernel, by decide +kernel, by decide +kernel⟩
theorem iX12_init : Cond.instanceMethod yX12_init ∈ z_us := z_mem4 114 rfl rfl
abbrev mX12_carry : ZT := (yX12_carry, cX12_carry, 5, none)
abbrev rX12_carry (n1 : Nat) : ZR := (1, 25, n1)
theorem kX12_carry : z_k mX12_carry 1 := ⟨by decide +kernel, z_mem4 124 rfl rfl, z_mem1 15 rfl rfl, by decide +kernel, by decide +kernel, by decide +kernel⟩
theorem iX12_carry : Cond.instanceMethod yX12_carry ∈ z_us := z_mem4 123 rfl rfl
theorem sX12_carry : Cond.selects RX12 yX12_carry yX12_carry ∈ z_us := z_memp 27 rfl rfl
abbrev mX12_set : ZT := (yX12_set, cX12_set, 5, none)
abbrev rX12_set (n1 : Nat) : ZR := (2, 49, n1)
theorem kX12_set : z_k mX12_set 2 := ⟨by decide +kernel, z_mem4 120 rfl rfl, z_mem1 15 rfl rfl, by decide +kernel, by decide +kernel, by decide +kernel⟩
theorem iX12_set : Cond.instanceMethod yX12_set ∈ z_us := z_mem4 119 rfl rfl
theorem sX12_set : Cond.selects RX12 yX12_set yX12_set ∈ z_us := z_memp 26 rfl rfl
abbrev mX12_copy : ZT := (yX12_copy, cX12_copy, 4, none)
abbrev rX12_copy (n1 : Nat) : ZR := (0, 0, n1)
theorem kX12_copy : z_k mX12_copy 2 := ⟨by decide +kernel, z_mem5 107 rfl rfl, z_mem1 15 rfl rfl, by decide +kernel, by decide +kernel, by decide +kernel⟩
theorem iX12_copy : Cond.instanceMethod yX12_copy ∈ z_us := z_mem5 106 rfl rfl
theorem sX12_copy : Cond.selects RX12 yX12_copy yX12_copy ∈ z_us := z_memp 39 rfl rfl
abbrev mX12_more : ZT := (yX12_more, cX12_more, 6, none)
abbrev rX12_more (n1 : Nat) : ZR := (2, 49, n1)
theorem kX12_more : z_k mX12_more 3 := ⟨by decide +kernel, z_mem5 135 rfl rfl, z_mem1 15 rfl rfl, by decide +kernel, by decide +kernel, by decide +kernel⟩
theorem iX12_more : Cond.instanceMethod yX12_more ∈ z_us := z_mem5 134 rfl rfl
theorem sX12_more : Cond.selects RX12 yX12_more yX12_more ∈ z_us := z_memp 45 rfl rfl
abbrev mX12_isBelow : ZT := (yX12_isBelow, cX12_isBelow, 2, (some .boolean))
abbrev rX12_isBelow (n1 : Nat) : ZR := (0, 0, n1)
theorem kX12_isBelow : z_k mX12_isBelow 1 := ⟨by decide +kernel, z_mem5 119 rfl rfl, z_mem1 15 rfl rfl, by decide +kernel, by decide +kernel, by decide +kernel⟩
theorem iX12_isBelow : Cond.instanceMethod yX12_isBelow ∈ z_us := z_mem5 118 rfl rfl
theorem sX12_isBelow : Cond.selects RX12 yX12_isBelow yX12_isBelow ∈ z_us := z_memp 42 rfl rfl
abbrev mX12_isZero : ZT := (yX12_isZero, cX12_isZero, 3, (some .boolean))
abbrev rX12_isZero (n1 : Nat) : ZR := (0, 0, n1)
theorem kX12_isZero : z_k mX12_isZero 1 := ⟨by decide +kernel, z_mem5 103 rfl rfl, z_mem1 15 rfl rfl, by decide +kernel, by decide +kernel, by decide +kernel⟩
theorem iX12_isZero : Cond.instanceMethod yX12_isZero ∈ z_us := z_mem5 102 rfl rfl
theorem sX12_isZero : Cond.selects RX12 yX12_isZero yX12_isZero ∈ z_us := z_memp 38 rfl rfl
abbrev mX12_turn : ZT := (yX12_turn, cX12_turn, 3, none)
abbrev rX12_turn (n1 : Nat) : ZR := (2, 49, n1)
theorem kX12_turn : z_k mX12_turn 1 := ⟨by decide +kernel, z_mem5 127 rfl rfl, z_mem1 15 rfl rfl, by decide +kernel, by decide +kernel, by decide +kernel⟩
theorem iX12_turn : Cond.instanceMethod yX12_turn ∈ z_us := z_mem5 126 rfl rfl
theorem sX12_turn : Cond.selects RX12 yX12_turn yX12_turn ∈ z_us := z_memp 44 rfl rfl
abbrev mX12_sign : ZT := (yX12_sign, cX12_sign, 2, (some .int))
abbrev rX12_sign (n1 : Nat) : ZR := (1, 22, n1)
theorem kX12_sign : z_k mX12_sign 1 := ⟨by decide +kernel, z_mem5 226 rfl rfl, z_mem1 15 rfl rfl, by decide +kernel, by decide +kernel, by decide +kernel⟩
theorem iX12_sign : Cond.instanceMethod yX12_sign ∈ z_us := z_mem5 225 rfl rfl
theorem sX12_sign : Cond.selects RX12 yX12_sign yX12_sign ∈ z_us := z_memp 61 rfl rfl
abbrev mX12_bare : ZT := (yX12_bare, cX12_bare, 5, none)
abbrev rX12_bare (n1 : Nat) : ZR := (3, 71, n1)
theorem kX12_bare : z_k mX12_bare 2 := ⟨by decide +kernel, z_mem5 123 rfl rfl, z_mem1 15 rfl rfl, by decide +kernel, by decide +kernel, by decide +kernel⟩
theorem iX12_bare : Cond.instanceMethod yX12_bare ∈ z_us := z_mem5 122 rfl rfl
theorem sX12_bare : Cond.selects RX12 yX12_bare yX12_bare ∈ z_us := z_memp 43 rfl rfl
abbrev mX12_length : ZT := (yX12_length, cX12_length, 2, (some .int))
abbrev rX12_length (n1 : Nat) : ZR := (0, 0, n1)
theorem kX12_length : z_k mX12_length 1 := ⟨by decide +kernel, z_mem5 130 rfl rfl, z_mem1 15 rfl rfl, by decide +kernel, by decide +kernel, by decide +kernel⟩
theorem sX12_length : Cond.static yX12_length ∈ z_us := z_mem5 129 rfl rfl
abbrev mX12_times : ZT := (yX12_times, cX12_times, 13, none)
abbrev rX12_times (n1 : Nat) : ZR := (4, 95, n1)
theorem kX12_times : z_k mX12_times 3 := ⟨by decide +kernel, z_mem5 115 rfl rfl, z_mem1 15 rfl rfl, by decide +kernel, by decide +kernel, by decide +kernel⟩
theorem iX12_times : Cond.instanceMethod yX12_times ∈ z_us := z_mem5 114 rfl rfl
theorem sX12_times : Cond.selects RX12 yX12_times yX12_times ∈ z_us := z_memp 41 rfl rfl
abbrev mX12_parts : ZT := (yX12_parts, cX12_parts, 16, none)
abbrev rX12_parts (n1 : Nat) : ZR := (4, 95, n1)
theorem kX12_parts : z_k mX12_parts 2 := ⟨by decide +kernel, z_mem5 139 rfl rfl, z_mem1 15 rfl rfl, by decide +kernel, by decide +kernel, by decide +kernel⟩
theorem iX12_parts : Cond.instanceMethod yX12_parts ∈ z_us := z_mem5 138 rfl rfl
theorem sX12_parts : Cond.selects RX12 yX12_parts yX12_parts ∈ z_us := z_memp 46 rfl rfl
abbrev mX12_goesInto : ZT := (yX12_goesInto, cX12_goesInto, 10, (some .boolean))
abbrev rX12_goesInto (n1 : Nat) : ZR := (1, 25, n1)
theorem kX12_goesInto : z_k mX12_goesInto 3 := ⟨by decide +kernel, z_mem5 145 rfl rfl, z_mem1 15 rfl rfl, by decide +kernel, by decide +kernel, by decide +kernel⟩
theorem iX12_goesInto : Cond.instanceMethod yX12_goesInto ∈ z_us := z_mem5 144 rfl rfl
theorem sX12_goesInto : Cond.selects RX12 yX12_goesInto yX12_goesInto ∈ z_us := z_memp 47 rfl rfl
abbrev mX12_isEven : ZT := (yX12_isEven, cX12_isEven, 2, (some .boolean))
abbrev rX12_isEven (n1 : Nat) : ZR := (0, 0, n1)
theorem kX12_isEven : z_k mX12_isEven 1 := ⟨by decide +kernel, z_mem5 178 rfl rfl, z_mem1 15 rfl rfl, by decide +kernel, by decide +kernel, by decide +kernel⟩
theorem iX12_isEven : Cond.instanceMethod yX12_isEven ∈ z_us := z_mem5 177 rfl rfl
theorem sX12_isEven : Cond.selects RX12 yX12_isEven yX12_isEven ∈ z_us := z_memp 53 rfl rfl
abbrev mX12_half : ZT := (yX12_half, cX12_half, 7, none)
abbrev rX12_half (n1 : Nat) : ZR := (0, 0, n1)
theorem kX12_half : z_k mX12_half 1 := ⟨by decide +kernel, z_mem5 182 rfl rfl, z_mem1 15 rfl rfl, by decide +kernel, by decide +kernel, by decide +kernel⟩
theorem iX12_half : Cond.instanceMethod yX12_half ∈ z_us := z_mem5 181 rfl rfl
theorem sX12_half : Cond.selects RX12 yX12_half yX12_half ∈ z_us := z_memp 54 rfl rfl
abbrev mX12_isLess : ZT := (yX12_isLess, cX12_isLess, 8, (some .boolean))
abbrev rX12_isLess (n1 : Nat) : ZR := (0, 0, n1)
theorem kX12_isLess : z_k mX12_isLess 2 := ⟨by decide +kernel, z_mem5 186 rfl rfl, z_mem1 15 rfl rfl, by decide +kernel, by decide +kernel, by decide +kernel⟩
theorem iX12_isLess : Cond.instanceMethod yX12_isLess ∈ z_us := z_mem5 185 rfl rfl
theorem sX12_isLess : Cond.selects RX12 yX12_isLess yX12_isLess ∈ z_us := z_memp 55 rfl rfl
abbrev mX12_result : ZT := (yX12_result, cX12_result, 6, none)
abbrev rX12_result (n1 : Nat) : ZR := (5, 130, n1)
theorem kX12_result : z_k mX12_result 2 := ⟨by decide +kernel, z_mem5 174 rfl rfl, z_mem1 15 rfl rfl, by decide +kernel, by decide +kernel, by decide +kernel⟩
theorem iX12_result : Cond.instanceMethod yX12_result ∈ z_us := z_mem5 173 rfl rfl
theorem sX12_result : Cond.selects RX12 yX12_result yX12_result ∈ z_us := z_memp 52 rfl rfl
abbrev mX12_isSlot : ZT := (yX12_isSlot, cX12_isSlot, 1, (some .boolean))
abbrev rX12_isSlot (n1 : Nat) : ZR := (0, 0, n1)
theorem kX12_isSlot : z_k mX12_isSlot 1 := ⟨by decide +kernel, z_mem4 230 rfl rfl, z_mem1 15 rfl rfl, by decide +kernel, by decide +kernel, by decide +kernel⟩
theorem sX12_isSlot : Cond.static yX12_isSlot ∈ z_us := z_mem4 229 rfl rfl
abbrev mX12_row : ZT := (yX12_row, cX12_row, 5, (some .int))
abbrev rX12_row (n1 : Nat) : ZR := (1, 20, n1)
theorem kX12_row : z_k mX12_row 3 := ⟨by decide +kernel, z_mem4 227 rfl rfl, z_mem1 15 rfl rfl, by decide +kernel, by decide +kernel, by decide +kernel⟩
theorem iX12_row : Cond.instanceMethod yX12_row ∈ z_us := z_mem4 225 rfl rfl
theorem sX12_row : Cond.selects RX12 yX12_row yX12_row ∈ z_us := z_mem4 226 rfl rfl
abbrev mX12_tear : ZT := (yX12_tear, cX12_tear, 2, (some .boolean))
abbrev rX12_tear (n1 : Nat) : ZR := (1, 20, n1)
theorem kX12_tear : z_k mX12_tear 1 := ⟨by decide +kernel, z_mem4 234 rfl rfl, z_mem1 15 rfl rfl, by decide +kernel, by decide +kernel, by decide +kernel⟩
theorem iX12_tear : Cond.instanceMethod yX12_tear ∈ z_us := z_mem4 232 rfl rfl
theorem sX12_tear : Cond.selects RX12 yX12_tear yX12_tear ∈ z_us := z_mem4 233 rfl rfl
abbrev mX12_write : ZT := (yX12_write, cX12_write, 6, (some .int))
abbrev rX12_write (n1 : Nat) : ZR := (1, 20, n1)
theorem kX12_write : z_k mX12_write 3 := ⟨by decide +kernel, z_mem4 238 rfl rfl, z_mem1 15 rfl rfl, by decide +kernel, by decide +kernel, by decide +kernel⟩
theorem iX12_write : Cond.instanceMethod yX12_write ∈ z_us := z_mem4 236 rfl rfl
theorem sX12_write : Cond.selects RX12 yX12_write yX12_write ∈ z_us := z_mem4 237 rfl rfl
abbrev mX12_cell : ZT := (yX12_cell, cX12_cell, 3, (some .int))
abbrev rX12_cell (n1 : Nat) : ZR := (0, 0, n1)
theorem kX12_cell : z_k mX12_cell 2 := ⟨by decide +kernel, z_mem5 87 rfl rfl, z_mem1 15 rfl rfl, by decide +kernel, by decide +kernel, by decide +kernel⟩
theorem iX12_cell : Cond.instanceMethod yX12_cell ∈ z_us := z_mem5 86 rfl rfl
theorem sX12_cell : Cond.selects RX12 yX12_cell yX12_cell ∈ z_us := z_memp 34 rfl rfl
abbrev mX12_clear : ZT := (yX12_clear, cX12_clear, 5, none)
abbrev rX12_clear (n1 : Nat) : ZR := (6, 153, n1)
theorem kX12_clear : z_k mX12_clear 1 := ⟨by decide +kernel, z_mem5 99 rfl rfl, z_mem1 15 rfl rfl, by decide +kernel, by decide +kernel, by decide +kernel⟩
theorem iX12_clear : Cond.instanceMethod yX12_clear ∈ z_us := z_mem5 98 rfl rfl
theorem sX12_clear : Cond.selects RX12 yX12_clear yX12_clear ∈ z_us := z_memp 37 rfl rfl
abbrev mX12_clears : ZT := (yX12_clears, cX12_clears, 4, none)
abbrev rX12_clears (n1 : Nat) : ZR := (5, 130, n1)
theorem kX12_clears : z_k mX12_clears 2 := ⟨by decide +kernel, z_mem5 111 rfl rfl, z_mem1 15 rfl rfl, by decide +kernel, by decide +kernel, by decide +kernel⟩
theorem iX12_clears : Cond.instanceMethod yX12_clears ∈ z_us := z_mem5 110 rfl rfl
theorem sX12_clears : Cond.selects RX12 yX12_clears yX12_clears ∈ z_us := z_memp 40 rfl rfl
abbrev mX12_isIn : ZT := (yX12_isIn, cX12_isIn, 6, (some .boolean))
abbrev rX12_isIn (n1 : Nat) : ZR := (0, 0, n1)
theorem kX12_isIn : z_k mX12_isIn 3 := ⟨by decide +kernel, z_mem5 6 rfl rfl, z_mem1 15 rfl rfl, by decide +kernel, by decide +kernel, by decide +kernel⟩
theorem sX12_isIn : Cond.static yX12_isIn ∈ z_us := z_mem5 5 rfl rfl
abbrev mX12_isSeen : ZT := (yX12_isSeen, cX12_isSeen, 2, (some .boolean))
abbrev rX12_isSeen (n1 : Nat) : ZR := (0, 0, n1)
theorem kX12_isSeen : z_k mX12_isSeen 1 := ⟨by decide +kernel, z_mem5 23 rfl rfl, z_mem1 15 rfl rfl, by decide +kernel, by decide +kernel, by decide +kernel⟩
theorem iX12_isSeen : Cond.instanceMethod yX12_isSeen ∈ z_us := z_mem5 22 rfl rfl
theorem sX12_isSeen : Cond.selects RX12 yX12_isSeen yX12_isSeen ∈ z_us := z_memp 28 rfl rfl
abbrev mX12_seen : ZT := (yX12_seen, cX12_seen, 10, (some .int))
abbrev rX12_seen (n1 : Nat) : ZR := (1, 25, n1)
theorem kX12_seen : z_k mX12_seen 1 := ⟨by decide +kernel, z_mem5 2 rfl rfl, z_mem1 15 rfl rfl, by decide +kernel, by decide +kernel, by decide +kernel⟩
theorem iX12_seen : Cond.instanceMethod yX12_seen ∈ z_us := z_mem5 0 rfl rfl
theorem sX12_seen : Cond.selects RX12 yX12_seen yX12_seen ∈ z_us := z_mem5 1 rfl rfl
abbrev mX12_see : ZT := (yX12_see, cX12_see, 6, (some .int))
abbrev rX12_see (n1 : Nat) : ZR := (1, 25, n1)
theorem kX12_see : z_k mX12_see 4 := ⟨by decide +kernel, z_mem5 15 rfl rfl, z_mem1 15 rfl rfl, by decide +kernel, by decide +kernel, by decide +kernel⟩
theorem iX12_see : Cond.instanceMethod yX12_see ∈ z_us := z_mem5 13 rfl rfl
theorem sX12_see : Cond.selects RX12 yX12_see yX12_see ∈ z_us := z_mem5 14 rfl rfl
abbrev mX12_drop : ZT := (yX12_drop, cX12_drop, 3, (some .int))
abbrev rX12_drop (n1 : Nat) : ZR := (1, 21, n1)
theorem kX12_drop : z_k mX12_drop 1 := ⟨by decide +kernel, z_mem5 19 rfl rfl, z_mem1 15 rfl rfl, by decide +kernel, by decide +kernel, by decide +kernel⟩
theorem iX12_drop : Cond.instanceMethod yX12_drop ∈ z_us := z_mem5 17 rfl rfl
theorem sX12_drop : Cond.selects RX12 yX12_drop yX12_drop ∈ z_us := z_mem5 18 rfl rfl
abbrev mX12_isLaw : ZT := (yX12_isLaw, cX12_isLaw, 2, (some .boolean))
abbrev rX12_isLaw (n1 : Nat) : ZR := (0, 0, n1)
theorem kX12_isLaw : z_k mX12_isLaw 1 := ⟨by decide +kernel, z_mem5 45 rfl rfl, z_mem1 15 rfl rfl, by decide +kernel, by decide +kernel, by decide +kernel⟩
theorem iX12_isLaw : Cond.instanceMethod yX12_isLaw ∈ z_us := z_mem5 44 rfl rfl
theorem sX12_isLaw : Cond.selects RX12 yX12_isLaw yX12_isLaw ∈ z_us := z_memp 29 rfl rfl
abbrev mX12_straight : ZT := (yX12_straight, cX12_straight, 3, (some .int))
abbrev rX12_straight (n1 : Nat) : ZR := (0, 0, n1)
theorem kX12_straight : z_k mX12_straight 1 := ⟨by decide +kernel, z_mem5 27 rfl rfl, z_mem1 15 rfl rfl, by decide +kernel, by decide +kernel, by decide +kernel⟩
theorem iX12_straight : Cond.instanceMethod yX12_straight ∈ z_us := z_mem5 25 rfl rfl
theorem sX12_straight : Cond.selects RX12 yX12_straight yX12_straight ∈ z_us := z_mem5 26 rfl rfl
abbrev mX12_capped : ZT := (yX12_capped, cX12_capped, 4, (some .int))
abbrev rX12_capped (n1 : Nat) : ZR := (0, 0, n1)
theorem kX12_capped : z_k mX12_capped 2 := ⟨by decide +kernel, z_mem5 31 rfl rfl, z_mem1 15 rfl rfl, by decide +kernel, by decide +kernel, by decide +kernel⟩
theorem iX12_capped : Cond.instanceMethod yX12_capped ∈ z_us := z_mem5 29 rfl rfl
theorem sX12_capped : Cond.selects RX12 yX12_capped yX12_capped ∈ z_us := z_mem5 30 rfl rfl
abbrev mX12_table : ZT := (yX12_table, cX12_table, 7, (some .int))
abbrev rX12_table (n1 : Nat) : ZR := (1, 25, n1)
theorem kX12_table : z_k mX12_table 1 := ⟨by decide +kernel, z_mem5 35 rfl rfl, z_mem1 15 rfl rfl, by decide +kernel, by decide +kernel, by decide +kernel⟩
theorem iX12_table : Cond.instanceMethod yX12_table ∈ z_us := z_mem5 33 rfl rfl
theorem sX12_table : Cond.selects RX12 yX12_table yX12_table ∈ z_us := z_mem5 34 rfl rfl
abbrev mX12_sum : ZT := (yX12_sum, cX12_sum, 4, (some .int))
abbrev rX12_sum (n1 : Nat) : ZR := (1, 21, n1)
theorem kX12_sum : z_k mX12_sum 2 := ⟨by decide +kernel, z_mem5 41 rfl rfl, z_mem1 15 rfl rfl, by decide +kernel, by decide +kernel, by decide +kernel⟩
theorem iX12_sum : Cond.instanceMethod yX12_sum ∈ z_us := z_mem5 39 rfl rfl
theorem sX12_sum : Cond.selects RX12 yX12_sum yX12_sum ∈ z_us := z_mem5 40 rfl rfl
abbrev mX12_unlike : ZT := (yX12_unlike, cX12_unlike, 3, (some .int))
abbrev rX12_unlike (n1 : Nat) : ZR := (1, 21, n1)
theorem kX12_unlike : z_k mX12_unlike 2 := ⟨by decide +kernel, z_mem5 49 rfl rfl, z_mem1 15 rfl rfl, by decide +kernel, by decide +kernel, by decide +kernel⟩
theorem iX12_unlike : Cond.instanceMethod yX12_unlike ∈ z_us := z_mem5 47 rfl rfl
theorem sX12_unlike : Cond.selects RX12 yX12_unlike yX12_unlike ∈ z_us := z_mem5 48 rfl rfl
abbrev mX12_use : ZT := (yX12_use, cX12_use, 2, (some .boolean))
abbrev rX12_use (n1 : Nat) : ZR := (1, 21, n1)
theorem kX12_use : z_k mX12_use 1 := ⟨by decide +kernel, z_mem5 53 rfl rfl, z_mem1 15 rfl rfl, by decide +kernel, by decide +kernel, by decide +kernel⟩
theorem iX12_use : Cond.instanceMethod yX12_use ∈ z_us := z_mem5 51 rfl rfl
theorem sX12_use : Cond.selects RX12 yX12_use yX12_use ∈ z_us := z_mem5 52 rfl rfl
abbrev mX12_nearest : ZT := (yX12_nearest, cX12_nearest, 2, (some .boolean))
abbrev rX12_nearest (n1 : Nat) : ZR := (0, 0, n1)
theorem kX12_nearest : z_k mX12_nearest 1 := ⟨by decide +kernel, z_mem5 57 rfl rfl, z_mem1 15 rfl rfl, by decide +kernel, by decide +kernel, by decide +kernel⟩
theorem iX12_nearest : Cond.instanceMethod yX12_nearest ∈ z_us := z_mem5 55 rfl rfl
theorem sX12_nearest : Cond.selects RX12 yX12_nearest yX12_nearest ∈ z_us := z_mem5 56 rfl rfl
abbrev mX12_size : ZT := (yX12_size, cX12_size, 1, (some .int))
abbrev rX12_size (n1 : Nat) : ZR := (0, 0, n1)
theorem kX12_size : z_k mX12_size 1 := ⟨by decide +kernel, z_mem5 79 rfl rfl, z_mem1 15 rfl rfl, by decide +kernel, by decide +kernel, by decide +kernel⟩
theorem sX12_size : Cond.static yX12_size ∈ z_us := z_mem5 78 rfl rfl
abbrev mX12_way : ZT := (yX12_way, cX12_way, 4, (some .int))
abbrev rX12_way (n1 : Nat) : ZR := (1, 20, n1)
theorem kX12_way : z_k mX12_way 4 := ⟨by decide +kernel, z_mem5 76 rfl rfl, z_mem1 15 rfl rfl, by decide +kernel, by decide +kernel, by decide +kernel⟩
theorem sX12_way : Cond.static yX12_way ∈ z_us := z_mem5 75 rfl rfl
abbrev mX12_between : ZT := (yX12_between, cX12_between, 4, (some .int))
abbrev rX12_between (n1 : Nat) : ZR := (2, 43, n1)
theorem kX12_between : z_k mX12_between 3 := ⟨by decide +kernel, z_mem5 91 rfl rfl, z_mem1 15 rfl rfl, by decide +kernel, by decide +kernel, by decide +kernel⟩
theorem iX12_between : Cond.instanceMethod yX12_between ∈ z_us := z_mem5 90 rfl rfl
theorem sX12_between : Cond.selects RX12 yX12_between yX12_between ∈ z_us := z_memp 35 rfl rfl
abbrev mX12_ways : ZT := (yX12_ways, cX12_ways, 4, (some .int))
abbrev rX12_ways (n1 : Nat) : ZR := (2, 43, n1)
theorem kX12_ways : z_k mX12_ways 1 := ⟨by decide +kernel, z_mem5 73 rfl rfl, z_mem1 15 rfl rfl, by decide +kernel, by decide +kernel, by decide +kernel⟩
theorem iX12_ways : Cond.instanceMethod yX12_ways ∈ z_us := z_mem5 72 rfl rfl
theorem sX12_ways : Cond.selects RX12 yX12_ways yX12_ways ∈ z_us := z_memp 32 rfl rfl
abbrev mX12_choose : ZT := (yX12_choose, cX12_choose, 4, none)
abbrev rX12_choose (n1 : Nat) : ZR := (3, 66, n1)
theorem kX12_choose : z_k mX12_choose 0 := ⟨by decide +kernel, z_mem5 69 rfl rfl, z_mem1 15 rfl rfl, by decide +kernel, by decide +kernel, by decide +kernel⟩
theorem iX12_choose : Cond.instanceMethod yX12_choose ∈ z_us := z_mem5 68 rfl rfl
theorem sX12_choose : Cond.selects RX12 yX12_choose yX12_choose ∈ z_us := z_memp 31 rfl rfl
abbrev mX12_toPlaces : ZT := (yX12_toPlaces, cX12_toPlaces, 5, (some .int))
abbrev rX12_toPlaces (n1 : Nat) : ZR := (2, 43, n1)
theorem kX12_toPlaces : z_k mX12_toPlaces 2 := ⟨by decide +kernel, z_mem5 95 rfl rfl, z_mem1 15 rfl rfl, by decide +kernel, by decide +kernel, by decide +kernel⟩
theorem iX12_toPlaces : Cond.instanceMethod yX12_toPlaces ∈ z_us := z_mem5 94 rfl rfl
theorem sX12_toPlaces : Cond.selects RX12 yX12_toPlaces yX12_toPlaces ∈ z_us := z_memp 36 rfl rfl
abbrev mX12_weigh : ZT := (yX12_weigh, cX12_weigh, 4, (some .boolean))
abbrev rX12_weigh (n1 : Nat) : ZR := (7, 177, n1)
theorem kX12_weigh : z_k mX12_weigh 1 := ⟨by decide +kernel, z_mem5 83 rfl rfl, z_mem1 15 rfl rfl, by decide +kernel, by decide +kernel, by decide +kernel⟩
theorem iX12_weigh : Cond.instanceMethod yX12_weigh ∈ z_us := z_mem5 82 rfl rfl
theorem sX12_weigh : Cond.selects RX12 yX12_weigh yX12_weigh ∈ z_us := z_memp 33 rfl rfl
abbrev mX12_told : ZT := (yX12_told, cX12_told, 2, (some .int))
abbrev rX12_told (n1 : Nat) : ZR := (1, 22, n1)
theorem kX12_told : z_k mX12_told 1 := ⟨by decide +kernel, z_mem5 157 rfl rfl, z_mem1 15 rfl rfl, by decide +kernel, by decide +kernel, by decide +kernel⟩
theorem iX12_told : Cond.instanceMethod yX12_told ∈ z_us := z_mem5 156 rfl rfl
theorem sX12_told : Cond.selects RX12 yX12_told yX12_told ∈ z_us := z_memp 50 rfl rfl
abbrev mX12_guess : ZT := (yX12_guess, cX12_guess, 3, none)
abbrev rX12_guess (n1 : Nat) : ZR := (3, 74, n1)
theorem kX12_guess : z_k mX12_guess 1 := ⟨by decide +kernel, z_mem5 153 rfl rfl, z_mem1 15 rfl rfl, by decide +kernel, by decide +kernel, by decide +kernel⟩
theorem iX12_guess : Cond.instanceMethod yX12_guess ∈ z_us := z_mem5 152 rfl rfl
theorem sX12_guess : Cond.selects RX12 yX12_guess yX12_guess ∈ z_us := z_memp 49 rfl rfl
abbrev mX12_top : ZT := (yX12_top, cX12_top, 2, (some .int))
abbrev rX12_top (n1 : Nat) : ZR := (0, 0, n1)
theorem kX12_top : z_k mX12_top 1 := ⟨by decide +kernel, z_mem5 149 rfl rfl, z_mem1 15 rfl rfl, by decide +kernel, by decide +kernel, by decide +kernel⟩
theorem iX12_top : Cond.instanceMethod yX12_top ∈ z_us := z_mem5 148 rfl rfl
theorem sX12_top : Cond.selects RX12 yX12_top yX12_top ∈ z_us := z_memp 48 rfl rfl
abbrev mX12_bottom : ZT := (yX12_bottom, cX12_bottom, 2, (some .int))
abbrev rX12_bottom (n1 : Nat) : ZR := (0, 0, n1)
theorem kX12_bottom : z_k mX12_bottom 1 := ⟨by decide +kernel, z_mem5 161 rfl rfl, z_mem1 15 rfl rfl, by decide +kernel, by decide +kernel, by decide +kernel⟩
theorem iX12_bottom : Cond.instanceMethod yX12_bottom ∈ z_us := z_mem5 160 rfl rfl
theorem sX12_bottom : Cond.selects RX12 yX12_bottom yX12_bottom ∈ z_us := z_memp 51 rfl rfl
abbrev mX12_isAnswered : ZT := (yX12_isAnswered, cX12_isAnswered, 5, (some .boolean))
abbrev rX12_isAnswered (n1 : Nat) : ZR := (8, 200, n1)
theorem kX12_isAnswered : z_k mX12_isAnswered 0 := ⟨by decide +kernel, z_mem5 65 rfl rfl, z_mem1 15 rfl rfl, by decide +kernel, by decide +kernel, by decide +kernel⟩
theorem iX12_isAnswered : Cond.instanceMethod yX12_isAnswered ∈ z_us := z_mem5 64 rfl rfl
theorem sX12_isAnswered : Cond.selects RX12 yX12_isAnswered yX12_isAnswered ∈ z_us := z_memp 30 rfl rfl
abbrev mX12_ask : ZT := (yX12_ask, cX12_ask, 3, (some .int))
abbrev rX12_ask (n1 : Nat) : ZR := (9, 224, n1)
theorem kX12_ask : z_k mX12_ask 2 := ⟨by decide +kernel, z_mem5 61 rfl rfl, z_mem1 15 rfl rfl, by decide +kernel, by decide +kernel, by decide +kernel⟩
theorem iX12_ask : Cond.instanceMethod yX12_ask ∈ z_us := z_mem5 59 rfl rfl
theorem sX12_ask : Cond.selects RX12 yX12_ask yX12_ask ∈ z_us := z_mem5 60 rfl rfl
abbrev mX12_mean : ZT := (yX12_mean, cX12_mean, 7, (some .int))
abbrev rX12_mean (n1 : Nat) : ZR := (9, 224, n1)
theorem kX12_mean : z_k mX12_mean 1 := ⟨by decide +kernel, z_mem5 165 rfl rfl, z_mem1 15 rfl rfl, by decide +kernel, by decide +kernel, by decide +kernel⟩
theorem iX12_mean : Cond.instanceMethod yX12_mean ∈ z_us := z_mem5 163 rfl rfl
theorem sX12_mean : Cond.selects RX12 yX12_mean yX12_mean ∈ z_us := z_mem5 164 rfl rfl
abbrev mX12_answer : ZT := (yX12_answer, cX12_answer, 4, (some .boolean))
abbrev rX12_answer (n1 : Nat) : ZR := (6, 155, n1)
theorem kX12_answer : z_k mX12_answer 1 := ⟨by decide +kernel, z_mem5 170 rfl rfl, z_mem1 15 rfl rfl, by decide +kernel, by decide +kernel, by decide +kernel⟩
theorem iX12_answer : Cond.instanceMethod yX12_answer ∈ z_us := z_mem5 168 rfl rfl
theorem sX12_answer : Cond.selects RX12 yX12_answer yX12_answer ∈ z_us := z_mem5 169 rfl rfl
abbrev mX12_isOff : ZT := (yX12_isOff, cX12_isOff, 4, (some .boolean))
abbrev rX12_isOff (n1 : Nat) : ZR := (8, 200, n1)
theorem kX12_isOff : z_k mX12_isOff 2 := ⟨by decide +kernel, z_mem5 194 rfl rfl, z_mem1 15 rfl rfl, by decide +kernel, by decide +kernel, by decide +kernel⟩
theorem iX12_isOff : Cond.instanceMethod yX12_isOff ∈ z_us := z_mem5 193 rfl rfl
theorem sX12_isOff : Cond.selects RX12 yX12_isOff yX12_isOff ∈ z_us := z_memp 56 rfl rfl
abbrev mX12_leftOut : ZT := (yX12_leftOut, cX12_leftOut, 2, (some .boolean))
abbrev rX12_leftOut (n1 : Nat) : ZR := (9, 223, n1)
theorem kX12_leftOut : z_k mX12_leftOut 1 := ⟨by decide +kernel, z_mem5 190 rfl rfl, z_mem1 15 rfl rfl, by decide +kernel, by decide +kernel, by decide +kernel⟩
theorem iX12_leftOut : Cond.instanceMethod yX12_leftOut ∈ z_us := z_mem5 188 rfl rfl
theorem sX12_leftOut : Cond.selects RX12 yX12_leftOut yX12_leftOut ∈ z_us := z_mem5 189 rfl rfl
abbrev mX12_bare_ : ZT := (yX12_bare_, cX12_bare_, 2, none)
abbrev rX12_bare_ (n1 : Nat) : ZR := (3, 71, n1)
theorem kX12_bare_ : z_k mX12_bare_ 1 := ⟨by decide +kernel, z_mem5 206 rfl rfl, z_mem1 15 rfl rfl, by decide +kernel, by decide +kernel, by decide +kernel⟩
theorem iX12_bare_ : Cond.instanceMethod yX12_bare_ ∈ z_us := z_mem5 205 rfl rfl
theorem sX12_bare_ : Cond.selects RX12 yX12_bare_ yX12_bare_ ∈ z_us := z_memp 58 rfl rfl
abbrev mX12_isAbove : ZT := (yX12_isAbove, cX12_isAbove, 5, (some .boolean))
abbrev rX12_isAbove (n1 : Nat) : ZR := (5, 127, n1)
theorem kX12_isAbove : z_k mX12_isAbove 4 := ⟨by decide +kernel, z_mem5 210 rfl rfl, z_mem1 15 rfl rfl, by decide +kernel, by decide +kernel, by decide +kernel⟩
theorem iX12_isAbove : Cond.instanceMethod yX12_isAbove ∈ z_us := z_mem5 209 rfl rfl
theorem sX12_isAbove : Cond.selects RX12 yX12_isAbove yX12_isAbove ∈ z_us := z_memp 59 rfl rfl
abbrev mX12_worst : ZT := (yX12_worst, cX12_worst, 4, (some .int))
abbrev rX12_worst (n1 : Nat) : ZR := (9, 223, n1)
theorem kX12_worst : z_k mX12_worst 1 := ⟨by decide +kernel, z_mem5 202 rfl rfl, z_mem1 15 rfl rfl, by decide +kernel, by decide +kernel, by decide +kernel⟩
theorem iX12_worst : Cond.instanceMethod yX12_worst ∈ z_us := z_mem5 201 rfl rfl
theorem sX12_worst : Cond.selects RX12 yX12_worst yX12_worst ∈ z_us := z_memp 57 rfl rfl
abbrev mX12_worst_ : ZT := (yX12_worst_, cX12_worst_, 1, (some .int))
abbrev rX12_worst_ (n1 : Nat) : ZR := (10, 246, n1)
theorem kX12_worst_ : z_k mX12_worst_ 0 := ⟨by decide +kernel, z_mem5 198 rfl rfl, z_mem1 15 rfl rfl, by decide +kernel, by decide +kernel, by decide +kernel⟩
theorem iX12_worst_ : Cond.instanceMethod yX12_worst_ ∈ z_us := z_mem5 196 rfl rfl
theorem sX12_worst_ : Cond.selects RX12 yX12_worst_ yX12_worst_ ∈ z_us := z_mem5 197 rfl rfl
abbrev mX12_best : ZT := (yX12_best, cX12_best, 3, (some .int))
abbrev rX12_best (n1 : Nat) : ZR := (10, 246, n1)
theorem kX12_best : z_k mX12_best 0 := ⟨by decide +kernel, z_mem5 214 rfl rfl, z_mem1 15 rfl rfl, by decide +kernel, by decide +kernel, by decide +kernel⟩
theorem iX12_best : Cond.instanceMethod yX12_best ∈ z_us := z_mem5 212 rfl rfl
theorem sX12_best : Cond.selects RX12 yX12_best yX12_best ∈ z_us := z_mem5 213 rfl rfl
abbrev mX12_minor : ZT := (yX12_minor, cX12_minor, 7, (some .int))
abbrev rX12_minor (n1 : Nat) : ZR := (7, 177, n1)
theorem kX12_minor : z_k mX12_minor 2 := ⟨by decide +kernel, z_mem5 222 rfl rfl, z_mem1 15 rfl rfl, by decide +kernel, by decide +kernel, by decide +kernel⟩
theorem iX12_minor : Cond.instanceMethod yX12_minor ∈ z_us := z_mem5 221 rfl rfl
theorem sX12_minor : Cond.selects RX12 yX12_minor yX12_minor ∈ z_us := z_memp 60 rfl rfl
abbrev mX12_allowed : ZT := (yX12_allowed, cX12_allowed, 5, (some .int))
abbrev rX12_allowed (n1 : Nat) : ZR := (8, 203, n1)
theorem kX12_allowed : z_k mX12_allowed 1 := ⟨by decide +kernel, z_mem5 218 rfl rfl, z_mem1 15 rfl rfl, by decide +kernel, by decide +kernel, by decide +kernel⟩
theorem iX12_allowed : Cond.instanceMethod yX12_allowed ∈ z_us := z_mem5 216 rfl rfl
theorem sX12_allowed : Cond.selects RX12 yX12_allowed yX12_allowed ∈ z_us := z_mem5 217 rfl rfl
abbrev mX12_band0 : ZT := (yX12_band0, cX12_band0, 7, (some .int))
abbrev rX12_band0 (n1 : Nat) : ZR := (2, 43, n1)
theorem kX12_band0 : z_k mX12_band0 2 := ⟨by decide +kernel, z_mem5 234 rfl rfl, z_mem1 15 rfl rfl, by decide +kernel, by decide +kernel, by decide +kernel⟩
theorem iX12_band0 : Cond.instanceMethod yX12_band0 ∈ z_us := z_mem5 233 rfl rfl
theorem sX12_band0 : Cond.selects RX12 yX12_band0 yX12_band0 ∈ z_us := z_memp 62 rfl rfl
abbrev mX12_pairs : ZT := (yX12_pairs, cX12_pairs, 3, (some .int))
abbrev rX12_pairs (n1 : Nat) : ZR := (3, 69, n1)
theorem kX12_pairs : z_k mX12_pairs 2 := ⟨by decide +kernel, z_mem5 230 rfl rfl, z_mem1 15 rfl rfl, by decide +kernel, by decide +kernel, by decide +kernel⟩
theorem iX12_pairs : Cond.instanceMethod yX12_pairs ∈ z_us := z_mem5 228 rfl rfl
theorem sX12_pairs : Cond.selects RX12 yX12_pairs yX12_pairs ∈ z_us := z_mem5 229 rfl rfl
abbrev mX12_band : ZT := (yX12_band, cX12_band, 4, (some .boolean))
abbrev rX12_band (n1 : Nat) : ZR := (6, 155, n1)
theorem kX12_band : z_k mX12_band 2 := ⟨by decide +kernel, z_mem5 238 rfl rfl, z_mem1 15 rfl rfl, by decide +kernel, by decide +kernel, by decide +kernel⟩
theorem iX12_band : Cond.instanceMethod yX12_band ∈ z_us := z_mem5 236 rfl rfl
theorem sX12_band : Cond.selects RX12 yX12_band yX12_band ∈ z_us := z_mem5 237 rfl rfl
abbrev mX12_manyParts : ZT := (yX12_manyParts, cX12_manyParts, 3, (some .int))
abbrev rX12_manyParts (n1 : Nat) : ZR := (1, 21, n1)
theorem kX12_manyParts : z_k mX12_manyParts 1 := ⟨by decide +kernel, z_mem6 6 rfl rfl, z_mem1 15 rfl rfl, by decide +kernel, by decide +kernel, by decide +kernel⟩
theorem iX12_manyParts : Cond.instanceMethod yX12_manyParts ∈ z_us := z_mem6 5 rfl rfl
theorem sX12_manyParts : Cond.selects RX12 yX12_manyParts yX12_manyParts ∈ z_us := z_memp 63 rfl rfl
abbrev mX12_look : ZT := (yX12_look, cX12_look, 2, (some .int))
abbrev rX12_look (n1 : Nat) : ZR := (4, 95, n1)
theorem kX12_look : z_k mX12_look 1 := ⟨by decide +kernel, z_mem6 2 rfl rfl, z_mem1 15 rfl rfl, by decide +kernel, by decide +kernel, by decide +kernel⟩
theorem iX12_look : Cond.instanceMethod yX12_look ∈ z_us := z_mem6 0 rfl rfl
theorem sX12_look : Cond.selects RX12 yX12_look yX12_look ∈ z_us := z_mem6 1 rfl rfl
abbrev mX12_part : ZT := (yX12_part, cX12_part, 3, (some .int))
abbrev rX12_part (n1 : Nat) : ZR := (4, 95, n1)
theorem kX12_part : z_k mX12_part 2 := ⟨by decide +kernel, z_mem6 10 rfl rfl, z_mem1 15 rfl rfl, by decide +kernel, by decide +kernel, by decide +kernel⟩
theorem iX12_part : Cond.instanceMethod yX12_part ∈ z_us := z_mem6 8 rfl rfl
theorem sX12_part : Cond.selects RX12 yX12_part yX12_part ∈ z_us := z_mem6 9 rfl rfl
abbrev mX12_told_ : ZT := (yX12_told_, cX12_told_, 3, (some .int))
abbrev rX12_told_ (n1 : Nat) : ZR := (1, 21, n1)
theorem kX12_told_ : z_k mX12_told_ 2 := ⟨by decide +kernel, z_mem6 14 rfl rfl, z_mem1 15 rfl rfl, by decide +kernel, by decide +kernel, by decide +kernel⟩
theorem iX12_told_ : Cond.instanceMethod yX12_told_ ∈ z_us := z_mem6 12 rfl rfl
theorem sX12_told_ : Cond.selects RX12 yX12_told_ yX12_told_ ∈ z_us := z_mem6 13 rfl rfl
abbrev mX12_count : ZT := (yX12_count, cX12_count, 4, (some .int))
abbrev rX12_count (n1 : Nat) : ZR := (0, 0, n1)
theorem kX12_count : z_k mX12_count 1 := ⟨by decide +kernel, z_mem6 18 rfl rfl, z_mem1 15 rfl rfl, by decide +kernel, by decide +kernel, by decide +kernel⟩
theorem iX12_count : Cond.instanceMethod yX12_count ∈ z_us := z_mem6 16 rfl rfl
theorem sX12_count : Cond.selects RX12 yX12_count yX12_count ∈ z_us := z_mem6 17 rfl rfl
abbrev mJ13_signum_95d88 : ZT := (yJ13_signum_95d88, cJ13_signum_95d88, 2, (some .int))
abbrev rJ13_signum_95d88 (n1 : Nat) : ZR := (0, 0, n1)
theorem kJ13_signum_95d88 : z_k mJ13_signum_95d88 1 := ⟨by decide +kernel, z_mem2 49 rfl rfl, z_mem1 13 rfl rfl, by decide +kernel, by decide +kernel, by decide +kernel⟩
theorem sJ13_signum_95d88 : Cond.static yJ13_signum_95d88 ∈ z_us := z_mem2 48 rfl rfl
abbrev mJ9_floorDiv_f86c9 : ZT := (yJ9_floorDiv_f86c9, cJ9_floorDiv_f86c9, 6, (some .long))
abbrev rJ9_floorDiv_f86c9 (n1 : Nat) : ZR := (0, 0, n1)
theorem kJ9_floorDiv_f86c9 : z_k mJ9_floorDiv_f86c9 2 := ⟨by decide +kernel, z_mem4 131 rfl rfl, z_mem1 5 rfl rfl, by decide +kernel, by decide +kernel, by decide +kernel⟩
theorem sJ9_floorDiv_f86c9 : Cond.static yJ9_floorDiv_f86c9 ∈ z_us := z_mem4 130 rfl rfl
abbrev mJ9_floorMod_f86c9 : ZT := (yJ9_floorMod_f86c9, cJ9_floorMod_f86c9, 6, (some .long))
abbrev rJ9_floorMod_f86c9 (n1 : Nat) : ZR := (0, 0, n1)
theorem kJ9_floorMod_f86c9 : z_k mJ9_floorMod_f86c9 2 := ⟨by decide +kernel, z_mem4 128 rfl rfl, z_mem1 5 rfl rfl, by decide +kernel, by decide +kernel, by decide +kernel⟩
theorem sJ9_floorMod_f86c9 : Cond.static yJ9_floorMod_f86c9 ∈ z_us := z_mem4 127 rfl rfl
abbrev mJ9_abs_0f7a4 : ZT := (yJ9_abs_0f7a4, cJ9_abs_0f7a4, 1, (some .int))
abbrev rJ9_abs_0f7a4 (n1 : Nat) : ZR := (0, 0, n1)
theorem kJ9_abs_0f7a4 : z_k mJ9_abs_0f7a4 1 := ⟨by decide +kernel, z_mem3 102 rfl rfl, z_mem1 5 rfl rfl, by decide +kernel, by decide +kernel, by decide +kernel⟩
theorem sJ9_abs_0f7a4 : Cond.static yJ9_abs_0f7a4 ∈ z_us := z_mem3 101 rfl rfl
abbrev mJ9_abs_067f4 : ZT := (yJ9_abs_067f4, cJ9_abs_067f4, 2, (some .long))
abbrev rJ9_abs_067f4 (n1 : Nat) : ZR := (0, 0, n1)
theorem kJ9_abs_067f4 : z_k mJ9_abs_067f4 1 := ⟨by decide +kernel, z_mem2 46 rfl rfl, z_mem1 5 rfl rfl, by decide +kernel, by decide +kernel, by decide +kernel⟩
theorem sJ9_abs_067f4 : Cond.static yJ9_abs_067f4 ∈ z_us := z_mem2 45 rfl rfl
abbrev mJ9_max_7cf53 : ZT := (yJ9_max_7cf53, cJ9_max_7cf53, 2, (some .int))
abbrev rJ9_max_7cf53 (n1 : Nat) : ZR := (0, 0, n1)
theorem kJ9_max_7cf53 : z_k mJ9_max_7cf53 2 := ⟨by decide +kernel, z_mem1 86 rfl rfl, z_mem1 5 rfl rfl, by decide +kernel, by decide +kernel, by decide +kernel⟩
theorem sJ9_max_7cf53 : Cond.static yJ9_max_7cf53 ∈ z_us := z_mem1 85 rfl rfl
abbrev mJ9_min_7cf53 : ZT := (yJ9_min_7cf53, cJ9_min_7cf53, 2, (some .int))
abbrev rJ9_min_7cf53 (n1 : Nat) : ZR := (0, 0, n1)
theorem kJ9_min_7cf53 : z_k mJ9_min_7cf53 2 := ⟨by decide +kernel, z_mem3 26 rfl rfl, z_mem1 5 rfl rfl, by decide +kernel, by decide +kernel, by decide +kernel⟩
theorem sJ9_min_7cf53 : Cond.static yJ9_min_7cf53 ∈ z_us := z_mem3 25 rfl rfl
abbrev mL_law : ZT := (yL_law, cL_law, 4, (some .boolean))
abbrev rL_law (n1 : Nat) : ZR := (11, 268, n1)
theorem clL_7 : Cond.classLink RL 7 RX11 ∈ z_us := z_mem1 16 rfl rfl
theorem in_X11 : Cond.instantiable RX11 15 ∈ z_us := z_mem1 17 rfl rfl
theorem iz_X11 : Cond.initialized RX11 ∈ z_us := z_mem1 1 rfl rfl
theorem mlL_9 {M : ZT} (h : M.1.cls = RL) : Cond.methodLink M.1.cls 9 yX11_init ∈ z_us ∨ ∃ host, Cond.methodLinkNest M.1.cls 9 yX11_init host ∈ z_us := by
  rw [h]
  exact Or.inl (z_mem1 18 rfl rfl)
theorem mlX11_3 : Cond.methodLink RX11 3 objectInit ∈ z_us := z_mem1 21 rfl rfl
theorem clX11_9 : Cond.classLink RX11 9 RX8 ∈ z_us := z_mem1 24 rfl rfl
theorem in_X8 : Cond.instantiable RX8 9 ∈ z_us := z_mem1 25 rfl rfl
theorem iz_X8 : Cond.initialized RX8 ∈ z_us := z_mem1 2 rfl rfl
theorem mlX11_11 {M : ZT} (h : M.1.cls = RX11) : Cond.methodLink M.1.cls 11 yX8_init ∈ z_us ∨ ∃ host, Cond.methodLinkNest M.1.cls 11 yX8_init host ∈ z_us := by
  rw [h]
  exact Or.inl (z_mem1 26 rfl rfl)
theorem mlX8_3 : Cond.methodLink RX8 3 objectInit ∈ z_us := z_mem1 29 rfl rfl
theorem flX8_11 {M : ZT} (h : M.1.cls = RX8) : z_fl M 11 TX8 0 := by
  unfold z_fl
  rw [h]
  exact Or.inl (z_mem1 30 rfl rfl)
theorem plX8_11 {M : ZT} (h : M.1.cls = RX8) (hi : M.1.name = "<init>") : z_pl M 11 TX8 0 := Or.inr ⟨rfl, by rw [h]; exact (z_mem1 30 rfl rfl), hi, by rw [h]; rfl⟩
theorem flX8_15 {M : ZT} (h : M.1.cls = RX8) : z_fl M 15 TX8 1 := by
  unfold z_fl
  rw [h]
  exact Or.inl (z_mem1 31 rfl rfl)
theorem plX8_15 {M : ZT} (h : M.1.cls = RX8) (hi : M.1.name = "<init>") : z_pl M 15 TX8 1 := Or.inr ⟨rfl, by rw [h]; exact (z_mem1 31 rfl rfl), hi, by rw [h]; rfl⟩
theorem flX8_19 {M : ZT} (h : M.1.cls = RX8) : z_fl M 19 TX8 2 := by
  unfold z_fl
  rw [h]
  exact Or.inl (z_mem1 32 rfl rfl)
theorem plX8_19 {M : ZT} (h : M.1.cls = RX8) (hi : M.1.name = "<init>") : z_pl M 19 TX8 2 := Or.inr ⟨rfl, by rw [h]; exact (z_mem1 32 rfl rfl), hi, by rw [h]; rfl⟩
theorem flX8_37 {M : ZT} (h : M.1.cls = RX8) : z_fl M 37 TX8 3 := by
  unfold z_fl
  rw [h]
  exact Or.inl (z_mem1 33 rfl rfl)
theorem plX8_37 {M : ZT} (h : M.1.cls = RX8) : z_pl M 37 TX8 3 := Or.inl ⟨rfl, flX8_37 h⟩
theorem flX8_41 {M : ZT} (h : M.1.cls = RX8) : z_fl M 41 TX8 4 := by
  unfold z_fl
  rw [h]
  exact Or.inl (z_mem1 34 rfl rfl)
theorem plX8_41 {M : ZT} (h : M.1.cls = RX8) : z_pl M 41 TX8 4 := Or.inl ⟨rfl, flX8_41 h⟩
theorem flX8_47 {M : ZT} (h : M.1.cls = RX8) : z_fl M 47 TX8 5 := by
  unfold z_fl
  rw [h]
  exact Or.inl (z_mem1 35 rfl rfl)
theorem plX8_47 {M : ZT} (h : M.1.cls = RX8) : z_pl M 47 TX8 5 := Or.inl ⟨rfl, flX8_47 h⟩
theorem flX11_295 {M : ZT} (h : M.1.cls = RX11) : z_fl M 295 TX8 5 := by
  unfold z_fl
  rw [h]
  exact Or.inr ⟨"NeighbourBoard", (z_mem1 36 rfl rfl)⟩
theorem plX11_295 {M : ZT} (h : M.1.cls = RX11) : z_pl M 295 TX8 5 := Or.inl ⟨rfl, flX11_295 h⟩
theorem flX8_53 {M : ZT} (h : M.1.cls = RX8) : z_fl M 53 TX8 6 := by
  unfold z_fl
  rw [h]
  exact Or.inl (z_mem1 37 rfl rfl)
theorem plX8_53 {M : ZT} (h : M.1.cls = RX8) : z_pl M 53 TX8 6 := Or.inl ⟨rfl, flX8_53 h⟩
theorem flX11_304 {M : ZT} (h : M.1.cls = RX11) : z_fl M 304 TX8 6 := by
  unfold z_fl
  rw [h]
  exact Or.inr ⟨"NeighbourBoard", (z_mem1 38 rfl rfl)⟩
theorem plX11_304 {M : ZT} (h : M.1.cls = RX11) : z_pl M 304 TX8 6 := Or.inl ⟨rfl, flX11_304 h⟩
theorem flX8_56 {M : ZT} (h : M.1.cls = RX8) : z_fl M 56 TX8 7 := by
  unfold z_fl
  rw [h]
  exact Or.inl (z_mem1 39 rfl rfl)
theorem plX8_56 {M : ZT} (h : M.1.cls = RX8) : z_pl M 56 TX8 7 := Or.inl ⟨rfl, flX8_56 h⟩
theorem flX11_307 {M : ZT} (h : M.1.cls = RX11) : z_fl M 307 TX8 7 := by
  unfold z_fl
  rw [h]
  exact Or.inr ⟨"NeighbourBoard", (z_mem1 40 rfl rfl)⟩
theorem plX11_307 {M : ZT} (h : M.1.cls = RX11) : z_pl M 307 TX8 7 := Or.inl ⟨rfl, flX11_307 h⟩
theorem flX11_118 {M : ZT} (h : M.1.cls = RX11) : z_fl M 118 TX8 8 := by
  unfold z_fl
  rw [h]
  exact Or.inr ⟨"NeighbourBoard", (z_mem1 41 rfl rfl)⟩
theorem plX11_118 {M : ZT} (h : M.1.cls = RX11) : z_pl M 118 TX8 8 := Or.inl ⟨rfl, flX11_118 h⟩
theorem flX8_44 {M : ZT} (h : M.1.cls = RX8) : z_fl M 44 TX8 8 := by
  unfold z_fl
  rw [h]
  exact Or.inl (z_mem1 42 rfl rfl)
theorem plX8_44 {M : ZT} (h : M.1.cls = RX8) : z_pl M 44 TX8 8 := Or.inl ⟨rfl, flX8_44 h⟩
theorem ac_long : Cond.arrayClass .long ∈ z_us := z_mem1 62 rfl rfl
theorem ac_int : Cond.arrayClass .int ∈ z_us := z_mem1 63 rfl rfl
theorem clX11_16 : Cond.classLink RX11 16 RX5 ∈ z_us := z_mem1 64 rfl rfl
theorem in_X5 : Cond.instantiable RX5 2 ∈ z_us := z_mem1 65 rfl rfl
theorem iz_X5 : Cond.initialized RX5 ∈ z_us := z_mem1 3 rfl rfl
theorem mlX11_18 {M : ZT} (h : M.1.cls = RX11) : Cond.methodLink M.1.cls 18 yX5_init ∈ z_us ∨ ∃ host, Cond.methodLinkNest M.1.cls 18 yX5_init host ∈ z_us := by
  rw [h]
  exact Or.inr ⟨"NeighbourBoard", (z_mem1 66 rfl rfl)⟩
theorem mlX5_3 : Cond.methodLink RX5 3 objectInit ∈ z_us := z_mem1 69 rfl rfl
theorem flX5_11 {M : ZT} (h : M.1.cls = RX5) : z_fl M 11 TX5 0 := by
  unfold z_fl
  rw [h]
  exact Or.inl (z_mem1 70 rfl rfl)
theorem plX5_11 {M : ZT} (h : M.1.cls = RX5) (hi : M.1.name = "<init>") : z_pl M 11 TX5 0 := Or.inr ⟨rfl, by rw [h]; exact (z_mem1 70 rfl rfl), hi, by rw [h]; rfl⟩
theorem flX5_15 {M : ZT} (h : M.1.cls = RX5) : z_fl M 15 TX5 1 := by
  unfold z_fl
  rw [h]
  exact Or.inl (z_mem1 71 rfl rfl)
theorem plX5_15 {M : ZT} (h : M.1.cls = RX5) : z_pl M 15 TX5 1 := Or.inl ⟨rfl, flX5_15 h⟩
theorem flX11_222 {M : ZT} (h : M.1.cls = RX11) : z_fl M 222 TX5 1 := by
  unfold z_fl
  rw [h]
  exact Or.inr ⟨"NeighbourBoard", (z_mem1 72 rfl rfl)⟩
theorem plX11_222 {M : ZT} (h : M.1.cls = RX11) : z_pl M 222 TX5 1 := Or.inl ⟨rfl, flX11_222 h⟩
theorem clX11_23 : Cond.classLink RX11 23 RX6 ∈ z_us := z_mem1 78 rfl rfl
theorem in_X6 : Cond.instantiable RX6 3 ∈ z_us := z_mem1 79 rfl rfl
theorem iz_X6 : Cond.initialized RX6 ∈ z_us := z_mem1 4 rfl rfl
theorem mlX11_25 {M : ZT} (h : M.1.cls = RX11) : Cond.methodLink M.1.cls 25 yX6_init ∈ z_us ∨ ∃ host, Cond.methodLinkNest M.1.cls 25 yX6_init host ∈ z_us := by
  rw [h]
  exact Or.inl (z_mem1 80 rfl rfl)
theorem mlX6_1 : Cond.methodLink RX6 1 objectInit ∈ z_us := z_mem1 83 rfl rfl
theorem mlX6_7 {M : ZT} (h : M.1.cls = RX6) : Cond.methodLink M.1.cls 7 yJ9_max_7cf53 ∈ z_us ∨ ∃ host, Cond.methodLinkNest M.1.cls 7 yJ9_max_7cf53 host ∈ z_us := by
  rw [h]
  exact Or.inl (z_mem1 84 rfl rfl)
theorem flX6_13 {M : ZT} (h : M.1.cls = RX6) : z_fl M 13 TX6 0 := by
  unfold z_fl
  rw [h]
  exact Or.inl (z_mem1 87 rfl rfl)
theorem plX6_13 {M : ZT} (h : M.1.cls = RX6) (hi : M.1.name = "<init>") : z_pl M 13 TX6 0 := Or.inr ⟨rfl, by rw [h]; exact (z_mem1 87 rfl rfl), hi, by rw [h]; rfl⟩
theorem flX2_37 {M : ZT} (h : M.1.cls = RX2) : z_fl M 37 TX6 0 := by
  unfold z_fl
  rw [h]
  exact Or.inr ⟨"NeighbourBoard", (z_mem1 88 rfl rfl)⟩
theorem flX11_277 {M : ZT} (h : M.1.cls = RX11) : z_fl M 277 TX6 0 := by
  unfold z_fl
  rw [h]
  exact Or.inr ⟨"NeighbourBoard", (z_mem1 89 rfl rfl)⟩
theorem flX6_19 {M : ZT} (h : M.1.cls = RX6) : z_fl M 19 TX6 1 := by
  unfold z_fl
  rw [h]
  exact Or.inl (z_mem1 90 rfl rfl)
theorem plX6_19 {M : ZT} (h : M.1.cls = RX6) (hi : M.1.name = "<init>") : z_pl M 19 TX6 1 := Or.inr ⟨rfl, by rw [h]; exact (z_mem1 90 rfl rfl), hi, by rw [h]; rfl⟩
theorem flX2_40 {M : ZT} (h : M.1.cls = RX2) : z_fl M 40 TX6 1 := by
  unfold z_fl
  rw [h]
  exact Or.inr ⟨"NeighbourBoard", (z_mem1 91 rfl rfl)⟩
theorem flX11_280 {M : ZT} (h : M.1.cls = RX11) : z_fl M 280 TX6 1 := by
  unfold z_fl
  rw [h]
  exact Or.inr ⟨"NeighbourBoard", (z_mem1 92 rfl rfl)⟩
theorem flX6_22 {M : ZT} (h : M.1.cls = RX6) : z_fl M 22 TX6 2 := by
  unfold z_fl
  rw [h]
  exact Or.inl (z_mem1 93 rfl rfl)
theorem plX6_22 {M : ZT} (h : M.1.cls = RX6) : z_pl M 22 TX6 2 := Or.inl ⟨rfl, flX6_22 h⟩
theorem flX7_27 {M : ZT} (h : M.1.cls = RX7) : z_fl M 27 TX6 2 := by
  unfold z_fl
  rw [h]
  exact Or.inr ⟨"NeighbourBoard", (z_mem1 94 rfl rfl)⟩
theorem plX7_27 {M : ZT} (h : M.1.cls = RX7) : z_pl M 27 TX6 2 := Or.inl ⟨rfl, flX7_27 h⟩
theorem flX2_34 {M : ZT} (h : M.1.cls = RX2) : z_fl M 34 TX6 2 := by
  unfold z_fl
  rw [h]
  exact Or.inr ⟨"NeighbourBoard", (z_mem1 95 rfl rfl)⟩
theorem plX2_34 {M : ZT} (h : M.1.cls = RX2) : z_pl M 34 TX6 2 := Or.inl ⟨rfl, flX2_34 h⟩
theorem flX11_128 {M : ZT} (h : M.1.cls = RX11) : z_fl M 128 TX6 2 := by
  unfold z_fl
  rw [h]
  exact Or.inr ⟨"NeighbourBoard", (z_mem1 96 rfl rfl)⟩
theorem plX11_128 {M : ZT} (h : M.1.cls = RX11) : z_pl M 128 TX6 2 := Or.inl ⟨rfl, flX11_128 h⟩
theorem clX11_32 : Cond.classLink RX11 32 RX2 ∈ z_us := z_mem1 104 rfl rfl
theorem in_X2 : Cond.instantiable RX2 6 ∈ z_us := z_mem1 105 rfl rfl
theorem iz_X2 : Cond.initialized RX2 ∈ z_us := z_mem1 6 rfl rfl
theorem mlX11_34 {M : ZT} (h : M.1.cls = RX11) : Cond.methodLink M.1.cls 34 yX2_init ∈ z_us ∨ ∃ host, Cond.methodLinkNest M.1.cls 34 yX2_init host ∈ z_us := by
  rw [h]
  exact Or.inr ⟨"NeighbourBoard", (z_mem1 106 rfl rfl)⟩
theorem mlX2_3 : Cond.methodLink RX2 3 objectInit ∈ z_us := z_mem1 109 rfl rfl
theorem flX2_9 {M : ZT} (h : M.1.cls = RX2) : z_fl M 9 TX2 0 := by
  unfold z_fl
  rw [h]
  exact Or.inl (z_mem1 110 rfl rfl)
theorem plX2_9 {M : ZT} (h : M.1.cls = RX2) (hi : M.1.name = "<init>") : z_pl M 9 TX2 0 := Or.inr ⟨rfl, by rw [h]; exact (z_mem1 110 rfl rfl), hi, by rw [h]; rfl⟩
theorem flX0_66 {M : ZT} (h : M.1.cls = RX0) : z_fl M 66 TX2 0 := by
  unfold z_fl
  rw [h]
  exact Or.inr ⟨"NeighbourBoard", (z_mem1 111 rfl rfl)⟩
theorem flX2_15 {M : ZT} (h : M.1.cls = RX2) : z_fl M 15 TX2 1 := by
  unfold z_fl
  rw [h]
  exact Or.inl (z_mem1 112 rfl rfl)
theorem plX2_15 {M : ZT} (h : M.1.cls = RX2) (hi : M.1.name = "<init>") : z_pl M 15 TX2 1 := Or.inr ⟨rfl, by rw [h]; exact (z_mem1 112 rfl rfl), hi, by rw [h]; rfl⟩
theorem flX0_74 {M : ZT} (h : M.1.cls = RX0) : z_fl M 74 TX2 1 := by
  unfold z_fl
  rw [h]
  exact Or.inr ⟨"NeighbourBoard", (z_mem1 113 rfl rfl)⟩
theorem flX2_18 {M : ZT} (h : M.1.cls = RX2) : z_fl M 18 TX2 2 := by
  unfold z_fl
  rw [h]
  exact Or.inl (z_mem1 114 rfl rfl)
theorem plX2_18 {M : ZT} (h : M.1.cls = RX2) (hi : M.1.name = "<init>") : z_pl M 18 TX2 2 := Or.inr ⟨rfl, by rw [h]; exact (z_mem1 114 rfl rfl), hi, by rw [h]; rfl⟩
theorem flX0_59 {M : ZT} (h : M.1.cls = RX0) : z_fl M 59 TX2 2 := by
  unfold z_fl
  rw [h]
  exact Or.inr ⟨"NeighbourBoard", (z_mem1 115 rfl rfl)⟩
theorem flX2_21 {M : ZT} (h : M.1.cls = RX2) : z_fl M 21 TX2 3 := by
  unfold z_fl
  rw [h]
  exact Or.inl (z_mem1 116 rfl rfl)
theorem plX2_21 {M : ZT} (h : M.1.cls = RX2) (hi : M.1.name = "<init>") : z_pl M 21 TX2 3 := Or.inr ⟨rfl, by rw [h]; exact (z_mem1 116 rfl rfl), hi, by rw [h]; rfl⟩
theorem flX2_24 {M : ZT} (h : M.1.cls = RX2) : z_fl M 24 TX2 4 := by
  unfold z_fl
  rw [h]
  exact Or.inl (z_mem1 117 rfl rfl)
theorem plX2_24 {M : ZT} (h : M.1.cls = RX2) : z_pl M 24 TX2 4 := Or.inl ⟨rfl, flX2_24 h⟩
theorem flX0_63 {M : ZT} (h : M.1.cls = RX0) : z_fl M 63 TX2 4 := by
  unfold z_fl
  rw [h]
  exact Or.inr ⟨"NeighbourBoard", (z_mem1 118 rfl rfl)⟩
theorem plX0_63 {M : ZT} (h : M.1.cls = RX0) : z_pl M 63 TX2 4 := Or.inl ⟨rfl, flX0_63 h⟩
theorem flX0_45 {M : ZT} (h : M.1.cls = RX0) : z_fl M 45 TX2 5 := by
  unfold z_fl
  rw [h]
  exact Or.inr ⟨"NeighbourBoard", (z_mem1 119 rfl rfl)⟩
theorem plX0_45 {M : ZT} (h : M.1.cls = RX0) : z_pl M 45 TX2 5 := Or.inl ⟨rfl, flX0_45 h⟩
theorem flX2_82 {M : ZT} (h : M.1.cls = RX2) : z_fl M 82 TX2 5 := by
  unfold z_fl
  rw [h]
  exact Or.inl (z_mem1 120 rfl rfl)
theorem plX2_82 {M : ZT} (h : M.1.cls = RX2) : z_pl M 82 TX2 5 := Or.inl ⟨rfl, flX2_82 h⟩
theorem clX11_39 : Cond.classLink RX11 39 RX4 ∈ z_us := z_mem1 134 rfl rfl
theorem in_X4 : Cond.instantiable RX4 6 ∈ z_us := z_mem1 135 rfl rfl
theorem iz_X4 : Cond.initialized RX4 ∈ z_us := z_mem1 7 rfl rfl
theorem mlX11_41 {M : ZT} (h : M.1.cls = RX11) : Cond.methodLink M.1.cls 41 yX4_init ∈ z_us ∨ ∃ host, Cond.methodLinkNest M.1.cls 41 yX4_init host ∈ z_us := by
  rw [h]
  exact Or.inl (z_mem1 136 rfl rfl)
theorem mlX4_3 : Cond.methodLink RX4 3 objectInit ∈ z_us := z_mem1 139 rfl rfl
theorem clX4_11 : Cond.classLink RX4 11 RX9 ∈ z_us := z_mem1 140 rfl rfl
theorem ao_W : Cond.arrayOver (.object RX9) ∈ z_us := z_mem1 141 rfl rfl
theorem in_X9 : Cond.instantiable RX9 3 ∈ z_us := z_mem1 142 rfl rfl
theorem iz_X9 : Cond.initialized RX9 ∈ z_us := z_mem1 8 rfl rfl
theorem mlX4_17 {M : ZT} (h : M.1.cls = RX4) : Cond.methodLink M.1.cls 17 yX9_init ∈ z_us ∨ ∃ host, Cond.methodLinkNest M.1.cls 17 yX9_init host ∈ z_us := by
  rw [h]
  exact Or.inr ⟨"NeighbourBoard", (z_mem1 143 rfl rfl)⟩
theorem mlX9_1 : Cond.methodLink RX9 1 objectInit ∈ z_us := z_mem1 146 rfl rfl
theorem flX9_9 {M : ZT} (h : M.1.cls = RX9) : z_fl M 9 TX9 0 := by
  unfold z_fl
  rw [h]
  exact Or.inl (z_mem1 147 rfl rfl)
theorem plX9_9 {M : ZT} (h : M.1.cls = RX9) (hi : M.1.name = "<init>") : z_pl M 9 TX9 0 := Or.inr ⟨rfl, by rw [h]; exact (z_mem1 147 rfl rfl), hi, by rw [h]; rfl⟩
theorem flX1_28 {M : ZT} (h : M.1.cls = RX1) : z_fl M 28 TX9 0 := by
  unfold z_fl
  rw [h]
  exact Or.inr ⟨"NeighbourBoard", (z_mem1 148 rfl rfl)⟩
theorem flX11_274 {M : ZT} (h : M.1.cls = RX11) : z_fl M 274 TX9 0 := by
  unfold z_fl
  rw [h]
  exact Or.inr ⟨"NeighbourBoard", (z_mem1 149 rfl rfl)⟩
theorem flX1_18 {M : ZT} (h : M.1.cls = RX1) : z_fl M 18 TX9 1 := by
  unfold z_fl
  rw [h]
  exact Or.inr ⟨"NeighbourBoard", (z_mem1 150 rfl rfl)⟩
theorem plX1_18 {M : ZT} (h : M.1.cls = RX1) : z_pl M 18 TX9 1 := Or.inl ⟨rfl, flX1_18 h⟩
theorem flX10_49 {M : ZT} (h : M.1.cls = RX10) : z_fl M 49 TX9 1 := by
  unfold z_fl
  rw [h]
  exact Or.inr ⟨"NeighbourBoard", (z_mem1 151 rfl rfl)⟩
theorem plX10_49 {M : ZT} (h : M.1.cls = RX10) : z_pl M 49 TX9 1 := Or.inl ⟨rfl, flX10_49 h⟩
theorem flX9_38 {M : ZT} (h : M.1.cls = RX9) : z_fl M 38 TX9 1 := by
  unfold z_fl
  rw [h]
  exact Or.inl (z_mem1 152 rfl rfl)
theorem plX9_38 {M : ZT} (h : M.1.cls = RX9) : z_pl M 38 TX9 1 := Or.inl ⟨rfl, flX9_38 h⟩
theorem flX4_69 {M : ZT} (h : M.1.cls = RX4) : z_fl M 69 TX9 1 := by
  unfold z_fl
  rw [h]
  exact Or.inr ⟨"NeighbourBoard", (z_mem1 153 rfl rfl)⟩
theorem plX4_69 {M : ZT} (h : M.1.cls = RX4) : z_pl M 69 TX9 1 := Or.inl ⟨rfl, flX4_69 h⟩
theorem flX11_268 {M : ZT} (h : M.1.cls = RX11) : z_fl M 268 TX9 1 := by
  unfold z_fl
  rw [h]
  exact Or.inr ⟨"NeighbourBoard", (z_mem1 154 rfl rfl)⟩
theorem plX11_268 {M : ZT} (h : M.1.cls = RX11) : z_pl M 268 TX9 1 := Or.inl ⟨rfl, flX11_268 h⟩
theorem flX1_22 {M : ZT} (h : M.1.cls = RX1) : z_fl M 22 TX9 2 := by
  unfold z_fl
  rw [h]
  exact Or.inr ⟨"NeighbourBoard", (z_mem1 155 rfl rfl)⟩
theorem plX1_22 {M : ZT} (h : M.1.cls = RX1) : z_pl M 22 TX9 2 := Or.inl ⟨rfl, flX1_22 h⟩
theorem flX9_34 {M : ZT} (h : M.1.cls = RX9) : z_fl M 34 TX9 2 := by
  unfold z_fl
  rw [h]
  exact Or.inl (z_mem1 156 rfl rfl)
theorem plX9_34 {M : ZT} (h : M.1.cls = RX9) : z_pl M 34 TX9 2 := Or.inl ⟨rfl, flX9_34 h⟩
theorem flX10_53 {M : ZT} (h : M.1.cls = RX10) : z_fl M 53 TX9 2 := by
  unfold z_fl
  rw [h]
  exact Or.inr ⟨"NeighbourBoard", (z_mem1 157 rfl rfl)⟩
theorem plX10_53 {M : ZT} (h : M.1.cls = RX10) : z_pl M 53 TX9 2 := Or.inl ⟨rfl, flX10_53 h⟩
theorem flX4_58 {M : ZT} (h : M.1.cls = RX4) : z_fl M 58 TX9 2 := by
  unfold z_fl
  rw [h]
  exact Or.inr ⟨"NeighbourBoard", (z_mem1 158 rfl rfl)⟩
theorem plX4_58 {M : ZT} (h : M.1.cls = RX4) : z_pl M 58 TX9 2 := Or.inl ⟨rfl, flX4_58 h⟩
theorem flX11_265 {M : ZT} (h : M.1.cls = RX11) : z_fl M 265 TX9 2 := by
  unfold z_fl
  rw [h]
  exact Or.inr ⟨"NeighbourBoard", (z_mem1 159 rfl rfl)⟩
theorem plX11_265 {M : ZT} (h : M.1.cls = RX11) : z_pl M 265 TX9 2 := Or.inl ⟨rfl, flX11_265 h⟩
theorem clX4_31 : Cond.classLink RX4 31 RX1 ∈ z_us := z_mem1 167 rfl rfl
theorem in_X1 : Cond.instantiable RX1 4 ∈ z_us := z_mem1 168 rfl rfl
theorem iz_X1 : Cond.initialized RX1 ∈ z_us := z_mem1 9 rfl rfl
theorem mlX4_33 {M : ZT} (h : M.1.cls = RX4) : Cond.methodLink M.1.cls 33 yX1_init ∈ z_us ∨ ∃ host, Cond.methodLinkNest M.1.cls 33 yX1_init host ∈ z_us := by
  rw [h]
  exact Or.inr ⟨"NeighbourBoard", (z_mem1 169 rfl rfl)⟩
theorem mlX1_1 : Cond.methodLink RX1 1 objectInit ∈ z_us := z_mem1 172 rfl rfl
theorem flX1_9 {M : ZT} (h : M.1.cls = RX1) : z_fl M 9 TX1 0 := by
  unfold z_fl
  rw [h]
  exact Or.inl (z_mem1 173 rfl rfl)
theorem plX1_9 {M : ZT} (h : M.1.cls = RX1) (hi : M.1.name = "<init>") : z_pl M 9 TX1 0 := Or.inr ⟨rfl, by rw [h]; exact (z_mem1 173 rfl rfl), hi, by rw [h]; rfl⟩
theorem flX1_15 {M : ZT} (h : M.1.cls = RX1) : z_fl M 15 TX1 1 := by
  unfold z_fl
  rw [h]
  exact Or.inl (z_mem1 174 rfl rfl)
theorem plX1_15 {M : ZT} (h : M.1.cls = RX1) (hi : M.1.name = "<init>") : z_pl M 15 TX1 1 := Or.inr ⟨rfl, by rw [h]; exact (z_mem1 174 rfl rfl), hi, by rw [h]; rfl⟩
theorem flX1_25 {M : ZT} (h : M.1.cls = RX1) : z_fl M 25 TX1 2 := by
  unfold z_fl
  rw [h]
  exact Or.inl (z_mem1 175 rfl rfl)
theorem plX1_25 {M : ZT} (h : M.1.cls = RX1) : z_pl M 25 TX1 2 := Or.inl ⟨rfl, flX1_25 h⟩
theorem flX1_41 {M : ZT} (h : M.1.cls = RX1) : z_fl M 41 TX1 3 := by
  unfold z_fl
  rw [h]
  exact Or.inl (z_mem1 176 rfl rfl)
theorem plX1_41 {M : ZT} (h : M.1.cls = RX1) : z_pl M 41 TX1 3 := Or.inl ⟨rfl, flX1_41 h⟩
theorem flX4_13 {M : ZT} (h : M.1.cls = RX4) : z_fl M 13 TX4 0 := by
  unfold z_fl
  rw [h]
  exact Or.inl (z_mem1 186 rfl rfl)
theorem plX4_13 {M : ZT} (h : M.1.cls = RX4) (hi : M.1.name = "<init>") : z_pl M 13 TX4 0 := Or.inr ⟨rfl, by rw [h]; exact (z_mem1 186 rfl rfl), hi, by rw [h]; rfl⟩
theorem flX4_18 {M : ZT} (h : M.1.cls = RX4) : z_fl M 18 TX4 1 := by
  unfold z_fl
  rw [h]
  exact Or.inl (z_mem1 187 rfl rfl)
theorem plX4_18 {M : ZT} (h : M.1.cls = RX4) (hi : M.1.name = "<init>") : z_pl M 18 TX4 1 := Or.inr ⟨rfl, by rw [h]; exact (z_mem1 187 rfl rfl), hi, by rw [h]; rfl⟩
theorem flX4_22 {M : ZT} (h : M.1.cls = RX4) : z_fl M 22 TX4 2 := by
  unfold z_fl
  rw [h]
  exact Or.inl (z_mem1 188 rfl rfl)
theorem plX4_22 {M : ZT} (h : M.1.cls = RX4) (hi : M.1.name = "<init>") : z_pl M 22 TX4 2 := Or.inr ⟨rfl, by rw [h]; exact (z_mem1 188 rfl rfl), hi, by rw [h]; rfl⟩
theorem flX0_42 {M : ZT} (h : M.1.cls = RX0) : z_fl M 42 TX4 2 := by
  unfold z_fl
  rw [h]
  exact Or.inr ⟨"NeighbourBoard", (z_mem1 189 rfl rfl)⟩
theorem flX2_104 {M : ZT} (h : M.1.cls = RX2) : z_fl M 104 TX4 2 := by
  unfold z_fl
  rw [h]
  exact Or.inr ⟨"NeighbourBoard", (z_mem1 190 rfl rfl)⟩
theorem flX4_25 {M : ZT} (h : M.1.cls = RX4) : z_fl M 25 TX4 3 := by
  unfold z_fl
  rw [h]
  exact Or.inl (z_mem1 191 rfl rfl)
theorem plX4_25 {M : ZT} (h : M.1.cls = RX4) (hi : M.1.name = "<init>") : z_pl M 25 TX4 3 := Or.inr ⟨rfl, by rw [h]; exact (z_mem1 191 rfl rfl), hi, by rw [h]; rfl⟩
theorem flX4_28 {M : ZT} (h : M.1.cls = RX4) : z_fl M 28 TX4 4 := by
  unfold z_fl
  rw [h]
  exact Or.inl (z_mem1 192 rfl rfl)
theorem plX4_28 {M : ZT} (h : M.1.cls = RX4) (hi : M.1.name = "<init>") : z_pl M 28 TX4 4 := Or.inr ⟨rfl, by rw [h]; exact (z_mem1 192 rfl rfl), hi, by rw [h]; rfl⟩
theorem flX4_34 {M : ZT} (h : M.1.cls = RX4) : z_fl M 34 TX4 5 := by
  unfold z_fl
  rw [h]
  exact Or.inl (z_mem1 193 rfl rfl)
theorem plX4_34 {M : ZT} (h : M.1.cls = RX4) (hi : M.1.name = "<init>") : z_pl M 34 TX4 5 := Or.inr ⟨rfl, by rw [h]; exact (z_mem1 193 rfl rfl), hi, by rw [h]; rfl⟩
theorem clX11_46 : Cond.classLink RX11 46 RX0 ∈ z_us := z_mem1 207 rfl rfl
theorem in_X0 : Cond.instantiable RX0 7 ∈ z_us := z_mem1 208 rfl rfl
theorem iz_X0 : Cond.initialized RX0 ∈ z_us := z_mem1 10 rfl rfl
theorem mlX11_48 {M : ZT} (h : M.1.cls = RX11) : Cond.methodLink M.1.cls 48 yX0_init ∈ z_us ∨ ∃ host, Cond.methodLinkNest M.1.cls 48 yX0_init host ∈ z_us := by
  rw [h]
  exact Or.inl (z_mem1 209 rfl rfl)
theorem mlX0_3 : Cond.methodLink RX0 3 objectInit ∈ z_us := z_mem1 212 rfl rfl
theorem clX0_9 : Cond.classLink RX0 9 RX9 ∈ z_us := z_mem1 213 rfl rfl
theorem mlX0_17 {M : ZT} (h : M.1.cls = RX0) : Cond.methodLink M.1.cls 17 yX9_init ∈ z_us ∨ ∃ host, Cond.methodLinkNest M.1.cls 17 yX9_init host ∈ z_us := by
  rw [h]
  exact Or.inr ⟨"NeighbourBoard", (z_mem1 214 rfl rfl)⟩
theorem flX0_11 {M : ZT} (h : M.1.cls = RX0) : z_fl M 11 TX0 0 := by
  unfold z_fl
  rw [h]
  exact Or.inl (z_mem1 215 rfl rfl)
theorem plX0_11 {M : ZT} (h : M.1.cls = RX0) (hi : M.1.name = "<init>") : z_pl M 11 TX0 0 := Or.inr ⟨rfl, by rw [h]; exact (z_mem1 215 rfl rfl), hi, by rw [h]; rfl⟩
theorem flX11_207 {M : ZT} (h : M.1.cls = RX11) : z_fl M 207 TX0 0 := by
  unfold z_fl
  rw [h]
  exact Or.inr ⟨"NeighbourBoard", (z_mem1 216 rfl rfl)⟩
theorem flX0_18 {M : ZT} (h : M.1.cls = RX0) : z_fl M 18 TX0 1 := by
  unfold z_fl
  rw [h]
  exact Or.inl (z_mem1 217 rfl rfl)
theorem plX0_18 {M : ZT} (h : M.1.cls = RX0) (hi : M.1.name = "<init>") : z_pl M 18 TX0 1 := Or.inr ⟨rfl, by rw [h]; exact (z_mem1 217 rfl rfl), hi, by rw [h]; rfl⟩
theorem flX11_187 {M : ZT} (h : M.1.cls = RX11) : z_fl M 187 TX0 1 := by
  unfold z_fl
  rw [h]
  exact Or.inr ⟨"NeighbourBoard", (z_mem1 218 rfl rfl)⟩
theorem flX0_22 {M : ZT} (h : M.1.cls = RX0) : z_fl M 22 TX0 2 := by
  unfold z_fl
  rw [h]
  exact Or.inl (z_mem1 219 rfl rfl)
theorem plX0_22 {M : ZT} (h : M.1.cls = RX0) (hi : M.1.name = "<init>") : z_pl M 22 TX0 2 := Or.inr ⟨rfl, by rw [h]; exact (z_mem1 219 rfl rfl), hi, by rw [h]; rfl⟩
theorem flX11_204 {M : ZT} (h : M.1.cls = RX11) : z_fl M 204 TX0 2 := by
  unfold z_fl
  rw [h]
  exact Or.inr ⟨"NeighbourBoard", (z_mem1 220 rfl rfl)⟩
theorem flX0_25 {M : ZT} (h : M.1.cls = RX0) : z_fl M 25 TX0 3 := by
  unfold z_fl
  rw [h]
  exact Or.inl (z_mem1 221 rfl rfl)
theorem plX0_25 {M : ZT} (h : M.1.cls = RX0) (hi : M.1.name = "<init>") : z_pl M 25 TX0 3 := Or.inr ⟨rfl, by rw [h]; exact (z_mem1 221 rfl rfl), hi, by rw [h]; rfl⟩
theorem flX11_191 {M : ZT} (h : M.1.cls = RX11) : z_fl M 191 TX0 3 := by
  unfold z_fl
  rw [h]
  exact Or.inr ⟨"NeighbourBoard", (z_mem1 222 rfl rfl)⟩
theorem flX0_28 {M : ZT} (h : M.1.cls = RX0) : z_fl M 28 TX0 4 := by
  unfold z_fl
  rw [h]
  exact Or.inl (z_mem1 223 rfl rfl)
theorem plX0_28 {M : ZT} (h : M.1.cls = RX0) (hi : M.1.name = "<init>") : z_pl M 28 TX0 4 := Or.inr ⟨rfl, by rw [h]; exact (z_mem1 223 rfl rfl), hi, by rw [h]; rfl⟩
theorem flX11_198 {M : ZT} (h : M.1.cls = RX11) : z_fl M 198 TX0 4 := by
  unfold z_fl
  rw [h]
  exact Or.inr ⟨"NeighbourBoard", (z_mem1 224 rfl rfl)⟩
theorem flX0_31 {M : ZT} (h : M.1.cls = RX0) : z_fl M 31 TX0 5 := by
  unfold z_fl
  rw [h]
  exact Or.inl (z_mem1 225 rfl rfl)
theorem plX0_31 {M : ZT} (h : M.1.cls = RX0) (hi : M.1.name = "<init>") : z_pl M 31 TX0 5 := Or.inr ⟨rfl, by rw [h]; exact (z_mem1 225 rfl rfl), hi, by rw [h]; rfl⟩
theorem flX11_201 {M : ZT} (h : M.1.cls = RX11) : z_fl M 201 TX0 5 := by
  unfold z_fl
  rw [h]
  exact Or.inr ⟨"NeighbourBoard", (z_mem1 226 rfl rfl)⟩
theorem flX0_34 {M : ZT} (h : M.1.cls = RX0) : z_fl M 34 TX0 6 := by
  unfold z_fl
  rw [h]
  exact Or.inl (z_mem1 227 rfl rfl)
theorem plX0_34 {M : ZT} (h : M.1.cls = RX0) : z_pl M 34 TX0 6 := Or.inl ⟨rfl, flX0_34 h⟩
theorem flX11_121 {M : ZT} (h : M.1.cls = RX11) : z_fl M 121 TX0 6 := by
  unfold z_fl
  rw [h]
  exact Or.inr ⟨"NeighbourBoard", (z_mem1 228 rfl rfl)⟩
theorem plX11_121 {M : ZT} (h : M.1.cls = RX11) : z_pl M 121 TX0 6 := Or.inl ⟨rfl, flX11_121 h⟩
theorem clX11_53 : Cond.classLink RX11 53 RX10 ∈ z_us := z_mem2 4 rfl rfl
theorem in_X10 : Cond.instantiable RX10 4 ∈ z_us := z_mem2 5 rfl rfl
theorem iz_X10 : Cond.initialized RX10 ∈ z_us := z_mem1 11 rfl rfl
theorem mlX11_55 {M : ZT} (h : M.1.cls = RX11) : Cond.methodLink M.1.cls 55 yX10_init ∈ z_us ∨ ∃ host, Cond.methodLinkNest M.1.cls 55 yX10_init host ∈ z_us := by
  rw [h]
  exact Or.inr ⟨"NeighbourBoard", (z_mem2 6 rfl rfl)⟩
theorem mlX10_1 : Cond.methodLink RX10 1 objectInit ∈ z_us := z_mem2 9 rfl rfl
theorem clX10_7 : Cond.classLink RX10 7 RX1 ∈ z_us := z_mem2 10 rfl rfl
theorem mlX10_9 {M : ZT} (h : M.1.cls = RX10) : Cond.methodLink M.1.cls 9 yX1_init ∈ z_us ∨ ∃ host, Cond.methodLinkNest M.1.cls 9 yX1_init host ∈ z_us := by
  rw [h]
  exact Or.inr ⟨"NeighbourBoard", (z_mem2 11 rfl rfl)⟩
theorem clX10_16 : Cond.classLink RX10 16 RX9 ∈ z_us := z_mem2 12 rfl rfl
theorem mlX10_18 {M : ZT} (h : M.1.cls = RX10) : Cond.methodLink M.1.cls 18 yX9_init ∈ z_us ∨ ∃ host, Cond.methodLinkNest M.1.cls 18 yX9_init host ∈ z_us := by
  rw [h]
  exact Or.inr ⟨"NeighbourBoard", (z_mem2 13 rfl rfl)⟩
theorem flX10_10 {M : ZT} (h : M.1.cls = RX10) : z_fl M 10 TX10 0 := by
  unfold z_fl
  rw [h]
  exact Or.inl (z_mem2 14 rfl rfl)
theorem plX10_10 {M : ZT} (h : M.1.cls = RX10) (hi : M.1.name = "<init>") : z_pl M 10 TX10 0 := Or.inr ⟨rfl, by rw [h]; exact (z_mem2 14 rfl rfl), hi, by rw [h]; rfl⟩
theorem flX10_19 {M : ZT} (h : M.1.cls = RX10) : z_fl M 19 TX10 1 := by
  unfold z_fl
  rw [h]
  exact Or.inl (z_mem2 15 rfl rfl)
theorem plX10_19 {M : ZT} (h : M.1.cls = RX10) (hi : M.1.name = "<init>") : z_pl M 19 TX10 1 := Or.inr ⟨rfl, by rw [h]; exact (z_mem2 15 rfl rfl), hi, by rw [h]; rfl⟩
theorem flX10_23 {M : ZT} (h : M.1.cls = RX10) : z_fl M 23 TX10 2 := by
  unfold z_fl
  rw [h]
  exact Or.inl (z_mem2 16 rfl rfl)
theorem plX10_23 {M : ZT} (h : M.1.cls = RX10) (hi : M.1.name = "<init>") : z_pl M 23 TX10 2 := Or.inr ⟨rfl, by rw [h]; exact (z_mem2 16 rfl rfl), hi, by rw [h]; rfl⟩
theorem flX10_26 {M : ZT} (h : M.1.cls = RX10) : z_fl M 26 TX10 3 := by
  unfold z_fl
  rw [h]
  exact Or.inl (z_mem2 17 rfl rfl)
theorem plX10_26 {M : ZT} (h : M.1.cls = RX10) (hi : M.1.name = "<init>") : z_pl M 26 TX10 3 := Or.inr ⟨rfl, by rw [h]; exact (z_mem2 17 rfl rfl), hi, by rw [h]; rfl⟩
theorem clX11_60 : Cond.classLink RX11 60 RX3 ∈ z_us := z_mem2 27 rfl rfl
theorem in_X3 : Cond.instantiable RX3 2 ∈ z_us := z_mem2 28 rfl rfl
theorem iz_X3 : Cond.initialized RX3 ∈ z_us := z_mem1 12 rfl rfl
theorem mlX11_62 {M : ZT} (h : M.1.cls = RX11) : Cond.methodLink M.1.cls 62 yX3_init ∈ z_us ∨ ∃ host, Cond.methodLinkNest M.1.cls 62 yX3_init host ∈ z_us := by
  rw [h]
  exact Or.inl (z_mem2 29 rfl rfl)
theorem mlX3_1 : Cond.methodLink RX3 1 objectInit ∈ z_us := z_mem2 32 rfl rfl
theorem clX3_7 : Cond.classLink RX3 7 RX9 ∈ z_us := z_mem2 33 rfl rfl
theorem mlX3_9 {M : ZT} (h : M.1.cls = RX3) : Cond.methodLink M.1.cls 9 yX9_init ∈ z_us ∨ ∃ host, Cond.methodLinkNest M.1.cls 9 yX9_init host ∈ z_us := by
  rw [h]
  exact Or.inr ⟨"NeighbourBoard", (z_mem2 34 rfl rfl)⟩
theorem mlX3_19 {M : ZT} (h : M.1.cls = RX3) : Cond.methodLink M.1.cls 19 yX9_put ∈ z_us ∨ ∃ host, Cond.methodLinkNest M.1.cls 19 yX9_put host ∈ z_us := by
  rw [h]
  exact Or.inl (z_mem2 35 rfl rfl)
theorem mlX9_13 {M : ZT} (h : M.1.cls = RX9) : Cond.methodLink M.1.cls 13 yX9_clear ∈ z_us ∨ ∃ host, Cond.methodLinkNest M.1.cls 13 yX9_clear host ∈ z_us := by
  rw [h]
  exact Or.inl (z_mem2 39 rfl rfl)
theorem ctX9_16 : Cond.constantLong RX9 16 (1000000000) ∈ z_us := z_mem2 43 rfl rfl
theorem mlX9_18 {M : ZT} (h : M.1.cls = RX9) : Cond.methodLink M.1.cls 18 yJ9_abs_067f4 ∈ z_us ∨ ∃ host, Cond.methodLinkNest M.1.cls 18 yJ9_abs_067f4 host ∈ z_us := by
  rw [h]
  exact Or.inl (z_mem2 44 rfl rfl)
theorem mlX9_24 {M : ZT} (h : M.1.cls = RX9) : Cond.methodLink M.1.cls 24 yJ13_signum_95d88 ∈ z_us ∨ ∃ host, Cond.methodLinkNest M.1.cls 24 yJ13_signum_95d88 host ∈ z_us := by
  rw [h]
  exact Or.inl (z_mem2 47 rfl rfl)
theorem mlX9_30 {M : ZT} (h : M.1.cls = RX9) : Cond.methodLink M.1.cls 30 yX9_trim ∈ z_us ∨ ∃ host, Cond.methodLinkNest M.1.cls 30 yX9_trim host ∈ z_us := by
  rw [h]
  exact Or.inl (z_mem2 50 rfl rfl)
theorem flX3_10 {M : ZT} (h : M.1.cls = RX3) : z_fl M 10 TX3 0 := by
  unfold z_fl
  rw [h]
  exact Or.inl (z_mem2 54 rfl rfl)
theorem plX3_10 {M : ZT} (h : M.1.cls = RX3) (hi : M.1.name = "<init>") : z_pl M 10 TX3 0 := Or.inr ⟨rfl, by rw [h]; exact (z_mem2 54 rfl rfl), hi, by rw [h]; rfl⟩
theorem flX10_29 {M : ZT} (h : M.1.cls = RX10) : z_fl M 29 TX3 0 := by
  unfold z_fl
  rw [h]
  exact Or.inr ⟨"NeighbourBoard", (z_mem2 55 rfl rfl)⟩
theorem flX2_111 {M : ZT} (h : M.1.cls = RX2) : z_fl M 111 TX3 0 := by
  unfold z_fl
  rw [h]
  exact Or.inr ⟨"NeighbourBoard", (z_mem2 56 rfl rfl)⟩
theorem flX11_214 {M : ZT} (h : M.1.cls = RX11) : z_fl M 214 TX3 0 := by
  unfold z_fl
  rw [h]
  exact Or.inr ⟨"NeighbourBoard", (z_mem2 57 rfl rfl)⟩
theorem flX3_16 {M : ZT} (h : M.1.cls = RX3) : z_fl M 16 TX3 1 := by
  unfold z_fl
  rw [h]
  exact Or.inl (z_mem2 58 rfl rfl)
theorem plX3_16 {M : ZT} (h : M.1.cls = RX3) (hi : M.1.name = "<init>") : z_pl M 16 TX3 1 := Or.inr ⟨rfl, by rw [h]; exact (z_mem2 58 rfl rfl), hi, by rw [h]; rfl⟩
theorem flX10_34 {M : ZT} (h : M.1.cls = RX10) : z_fl M 34 TX3 1 := by
  unfold z_fl
  rw [h]
  exact Or.inr ⟨"NeighbourBoard", (z_mem2 59 rfl rfl)⟩
theorem flX2_98 {M : ZT} (h : M.1.cls = RX2) : z_fl M 98 TX3 1 := by
  unfold z_fl
  rw [h]
  exact Or.inr ⟨"NeighbourBoard", (z_mem2 60 rfl rfl)⟩
theorem flX11_217 {M : ZT} (h : M.1.cls = RX11) : z_fl M 217 TX3 1 := by
  unfold z_fl
  rw [h]
  exact Or.inr ⟨"NeighbourBoard", (z_mem2 61 rfl rfl)⟩
theorem clX11_76 : Cond.classLink RX11 76 RX7 ∈ z_us := z_mem2 67 rfl rfl
theorem in_X7 : Cond.instantiable RX7 3 ∈ z_us := z_mem2 68 rfl rfl
theorem iz_X7 : Cond.initialized RX7 ∈ z_us := z_mem1 14 rfl rfl
theorem mlX11_78 {M : ZT} (h : M.1.cls = RX11) : Cond.methodLink M.1.cls 78 yX7_init ∈ z_us ∨ ∃ host, Cond.methodLinkNest M.1.cls 78 yX7_init host ∈ z_us := by
  rw [h]
  exact Or.inr ⟨"NeighbourBoard", (z_mem2 69 rfl rfl)⟩
theorem mlX7_3 : Cond.methodLink RX7 3 objectInit ∈ z_us := z_mem2 72 rfl rfl
theorem clX7_9 : Cond.classLink RX7 9 RX6 ∈ z_us := z_mem2 73 rfl rfl
theorem mlX7_11 {M : ZT} (h : M.1.cls = RX7) : Cond.methodLink M.1.cls 11 yX6_init ∈ z_us ∨ ∃ host, Cond.methodLinkNest M.1.cls 11 yX6_init host ∈ z_us := by
  rw [h]
  exact Or.inl (z_mem2 74 rfl rfl)
theorem flX7_14 {M : ZT} (h : M.1.cls = RX7) : z_fl M 14 TX7 0 := by
  unfold z_fl
  rw [h]
  exact Or.inl (z_mem2 75 rfl rfl)
theorem plX7_14 {M : ZT} (h : M.1.cls = RX7) (hi : M.1.name = "<init>") : z_pl M 14 TX7 0 := Or.inr ⟨rfl, by rw [h]; exact (z_mem2 75 rfl rfl), hi, by rw [h]; rfl⟩
theorem flX11_125 {M : ZT} (h : M.1.cls = RX11) : z_fl M 125 TX7 0 := by
  unfold z_fl
  rw [h]
  exact Or.inr ⟨"NeighbourBoard", (z_mem2 76 rfl rfl)⟩
theorem flX2_54 {M : ZT} (h : M.1.cls = RX2) : z_fl M 54 TX7 0 := by
  unfold z_fl
  rw [h]
  exact Or.inr ⟨"NeighbourBoard", (z_mem2 77 rfl rfl)⟩
theorem flX7_20 {M : ZT} (h : M.1.cls = RX7) : z_fl M 20 TX7 1 := by
  unfold z_fl
  rw [h]
  exact Or.inl (z_mem2 78 rfl rfl)
theorem plX7_20 {M : ZT} (h : M.1.cls = RX7) (hi : M.1.name = "<init>") : z_pl M 20 TX7 1 := Or.inr ⟨rfl, by rw [h]; exact (z_mem2 78 rfl rfl), hi, by rw [h]; rfl⟩
theorem flX0_69 {M : ZT} (h : M.1.cls = RX0) : z_fl M 69 TX7 1 := by
  unfold z_fl
  rw [h]
  exact Or.inr ⟨"NeighbourBoard", (z_mem2 79 rfl rfl)⟩
theorem flX2_91 {M : ZT} (h : M.1.cls = RX2) : z_fl M 91 TX7 1 := by
  unfold z_fl
  rw [h]
  exact Or.inr ⟨"NeighbourBoard", (z_mem2 80 rfl rfl)⟩
theorem flX11_254 {M : ZT} (h : M.1.cls = RX11) : z_fl M 254 TX7 1 := by
  unfold z_fl
  rw [h]
  exact Or.inr ⟨"NeighbourBoard", (z_mem2 81 rfl rfl)⟩
theorem flX7_24 {M : ZT} (h : M.1.cls = RX7) : z_fl M 24 TX7 2 := by
  unfold z_fl
  rw [h]
  exact Or.inl (z_mem2 82 rfl rfl)
theorem plX7_24 {M : ZT} (h : M.1.cls = RX7) (hi : M.1.name = "<init>") : z_pl M 24 TX7 2 := Or.inr ⟨rfl, by rw [h]; exact (z_mem2 82 rfl rfl), hi, by rw [h]; rfl⟩
theorem flX2_79 {M : ZT} (h : M.1.cls = RX2) : z_fl M 79 TX7 2 := by
  unfold z_fl
  rw [h]
  exact Or.inr ⟨"NeighbourBoard", (z_mem2 83 rfl rfl)⟩
theorem flX11_283 {M : ZT} (h : M.1.cls = RX11) : z_fl M 283 TX7 2 := by
  unfold z_fl
  rw [h]
  exact Or.inr ⟨"NeighbourBoard", (z_mem2 84 rfl rfl)⟩
theorem flX11_12 {M : ZT} (h : M.1.cls = RX11) : z_fl M 12 TX11 0 := by
  unfold z_fl
  rw [h]
  exact Or.inl (z_mem2 92 rfl rfl)
theorem plX11_12 {M : ZT} (h : M.1.cls = RX11) (hi : M.1.name = "<init>") : z_pl M 12 TX11 0 := Or.inr ⟨rfl, by rw [h]; exact (z_mem2 92 rfl rfl), hi, by rw [h]; rfl⟩
theorem flX11_19 {M : ZT} (h : M.1.cls = RX11) : z_fl M 19 TX11 1 := by
  unfold z_fl
  rw [h]
  exact Or.inl (z_mem2 93 rfl rfl)
theorem plX11_19 {M : ZT} (h : M.1.cls = RX11) (hi : M.1.name = "<init>") : z_pl M 19 TX11 1 := Or.inr ⟨rfl, by rw [h]; exact (z_mem2 93 rfl rfl), hi, by rw [h]; rfl⟩
theorem flX11_28 {M : ZT} (h : M.1.cls = RX11) : z_fl M 28 TX11 2 := by
  unfold z_fl
  rw [h]
  exact Or.inl (z_mem2 94 rfl rfl)
theorem plX11_28 {M : ZT} (h : M.1.cls = RX11) (hi : M.1.name = "<init>") : z_pl M 28 TX11 2 := Or.inr ⟨rfl, by rw [h]; exact (z_mem2 94 rfl rfl), hi, by rw [h]; rfl⟩
theorem flX11_35 {M : ZT} (h : M.1.cls = RX11) : z_fl M 35 TX11 3 := by
  unfold z_fl
  rw [h]
  exact Or.inl (z_mem2 95 rfl rfl)
theorem plX11_35 {M : ZT} (h : M.1.cls = RX11) (hi : M.1.name = "<init>") : z_pl M 35 TX11 3 := Or.inr ⟨rfl, by rw [h]; exact (z_mem2 95 rfl rfl), hi, by rw [h]; rfl⟩
theorem flX11_42 {M : ZT} (h : M.1.cls = RX11) : z_fl M 42 TX11 4 := by
  unfold z_fl
  rw [h]
  exact Or.inl (z_mem2 96 rfl rfl)
theorem plX11_42 {M : ZT} (h : M.1.cls = RX11) (hi : M.1.name = "<init>") : z_pl M 42 TX11 4 := Or.inr ⟨rfl, by rw [h]; exact (z_mem2 96 rfl rfl), hi, by rw [h]; rfl⟩
theorem flX11_49 {M : ZT} (h : M.1.cls = RX11) : z_fl M 49 TX11 5 := by
  unfold z_fl
  rw [h]
  exact Or.inl (z_mem2 97 rfl rfl)
theorem plX11_49 {M : ZT} (h : M.1.cls = RX11) (hi : M.1.name = "<init>") : z_pl M 49 TX11 5 := Or.inr ⟨rfl, by rw [h]; exact (z_mem2 97 rfl rfl), hi, by rw [h]; rfl⟩
theorem flX11_56 {M : ZT} (h : M.1.cls = RX11) : z_fl M 56 TX11 6 := by
  unfold z_fl
  rw [h]
  exact Or.inl (z_mem2 98 rfl rfl)
theorem plX11_56 {M : ZT} (h : M.1.cls = RX11) (hi : M.1.name = "<init>") : z_pl M 56 TX11 6 := Or.inr ⟨rfl, by rw [h]; exact (z_mem2 98 rfl rfl), hi, by rw [h]; rfl⟩
theorem flX11_63 {M : ZT} (h : M.1.cls = RX11) : z_fl M 63 TX11 7 := by
  unfold z_fl
  rw [h]
  exact Or.inl (z_mem2 99 rfl rfl)
theorem plX11_63 {M : ZT} (h : M.1.cls = RX11) (hi : M.1.name = "<init>") : z_pl M 63 TX11 7 := Or.inr ⟨rfl, by rw [h]; exact (z_mem2 99 rfl rfl), hi, by rw [h]; rfl⟩
theorem flX11_67 {M : ZT} (h : M.1.cls = RX11) : z_fl M 67 TX11 8 := by
  unfold z_fl
  rw [h]
  exact Or.inl (z_mem2 100 rfl rfl)
theorem plX11_67 {M : ZT} (h : M.1.cls = RX11) (hi : M.1.name = "<init>") : z_pl M 67 TX11 8 := Or.inr ⟨rfl, by rw [h]; exact (z_mem2 100 rfl rfl), hi, by rw [h]; rfl⟩
theorem flX11_70 {M : ZT} (h : M.1.cls = RX11) : z_fl M 70 TX11 9 := by
  unfold z_fl
  rw [h]
  exact Or.inl (z_mem2 101 rfl rfl)
theorem plX11_70 {M : ZT} (h : M.1.cls = RX11) (hi : M.1.name = "<init>") : z_pl M 70 TX11 9 := Or.inr ⟨rfl, by rw [h]; exact (z_mem2 101 rfl rfl), hi, by rw [h]; rfl⟩
theorem flX11_73 {M : ZT} (h : M.1.cls = RX11) : z_fl M 73 TX11 10 := by
  unfold z_fl
  rw [h]
  exact Or.inl (z_mem2 102 rfl rfl)
theorem plX11_73 {M : ZT} (h : M.1.cls = RX11) (hi : M.1.name = "<init>") : z_pl M 73 TX11 10 := Or.inr ⟨rfl, by rw [h]; exact (z_mem2 102 rfl rfl), hi, by rw [h]; rfl⟩
theorem flX11_79 {M : ZT} (h : M.1.cls = RX11) : z_fl M 79 TX11 11 := by
  unfold z_fl
  rw [h]
  exact Or.inl (z_mem2 103 rfl rfl)
theorem plX11_79 {M : ZT} (h : M.1.cls = RX11) : z_pl M 79 TX11 11 := Or.inl ⟨rfl, flX11_79 h⟩
theorem flX11_83 {M : ZT} (h : M.1.cls = RX11) : z_fl M 83 TX11 12 := by
  unfold z_fl
  rw [h]
  exact Or.inl (z_mem2 104 rfl rfl)
theorem plX11_83 {M : ZT} (h : M.1.cls = RX11) : z_pl M 83 TX11 12 := Or.inl ⟨rfl, flX11_83 h⟩
theorem flX11_86 {M : ZT} (h : M.1.cls = RX11) : z_fl M 86 TX11 13 := by
  unfold z_fl
  rw [h]
  exact Or.inl (z_mem2 105 rfl rfl)
theorem plX11_86 {M : ZT} (h : M.1.cls = RX11) : z_pl M 86 TX11 13 := Or.inl ⟨rfl, flX11_86 h⟩
theorem flX11_90 {M : ZT} (h : M.1.cls = RX11) : z_fl M 90 TX11 14 := by
  unfold z_fl
  rw [h]
  exact Or.inl (z_mem2 106 rfl rfl)
theorem plX11_90 {M : ZT} (h : M.1.cls = RX11) : z_pl M 90 TX11 14 := Or.inl ⟨rfl, flX11_90 h⟩
theorem mlL_13 {M : ZT} (h : M.1.cls = RL) : Cond.methodLink M.1.cls 13 yX11_row ∈ z_us ∨ ∃ host, Cond.methodLinkNest M.1.cls 13 yX11_row host ∈ z_us := by
  rw [h]
  exact Or.inl (z_mem2 138 rfl rfl)
theorem mlX11_93 {M : ZT} (h : M.1.cls = RX11) : Cond.methodLink M.1.cls 93 yX8_exists ∈ z_us ∨ ∃ host, Cond.methodLinkNest M.1.cls 93 yX8_exists host ∈ z_us := by
  rw [h]
  exact Or.inl (z_mem2 142 rfl rfl)
theorem mlX11_97 {M : ZT} (h : M.1.cls = RX11) : Cond.methodLink M.1.cls 97 yX8_lay ∈ z_us ∨ ∃ host, Cond.methodLinkNest M.1.cls 97 yX8_lay host ∈ z_us := by
  rw [h]
  exact Or.inl (z_mem2 146 rfl rfl)
theorem mlX8_22 {M : ZT} (h : M.1.cls = RX8) : Cond.methodLink M.1.cls 22 yX8_exists ∈ z_us ∨ ∃ host, Cond.methodLinkNest M.1.cls 22 yX8_exists host ∈ z_us := by
  rw [h]
  exact Or.inl (z_mem2 150 rfl rfl)
theorem mlL_18 {M : ZT} (h : M.1.cls = RL) : Cond.methodLink M.1.cls 18 yX11_tear ∈ z_us ∨ ∃ host, Cond.methodLinkNest M.1.cls 18 yX11_tear host ∈ z_us := by
  rw [h]
  exact Or.inl (z_mem2 151 rfl rfl)
theorem mlX11_101 {M : ZT} (h : M.1.cls = RX11) : Cond.methodLink M.1.cls 101 yX8_holds ∈ z_us ∨ ∃ host, Cond.methodLinkNest M.1.cls 101 yX8_holds host ∈ z_us := by
  rw [h]
  exact Or.inl (z_mem2 155 rfl rfl)
theorem mlX11_104 {M : ZT} (h : M.1.cls = RX11) : Cond.methodLink M.1.cls 104 yX8_empty ∈ z_us ∨ ∃ host, Cond.methodLinkNest M.1.cls 104 yX8_empty host ∈ z_us := by
  rw [h]
  exact Or.inl (z_mem2 159 rfl rfl)
theorem mlL_25 {M : ZT} (h : M.1.cls = RL) : Cond.methodLink M.1.cls 25 yX11_write ∈ z_us ∨ ∃ host, Cond.methodLinkNest M.1.cls 25 yX11_write host ∈ z_us := by
  rw [h]
  exact Or.inl (z_mem2 163 rfl rfl)
theorem mlX11_107 {M : ZT} (h : M.1.cls = RX11) : Cond.methodLink M.1.cls 107 yX8_put ∈ z_us ∨ ∃ host, Cond.methodLinkNest M.1.cls 107 yX8_put host ∈ z_us := by
  rw [h]
  exact Or.inl (z_mem2 167 rfl rfl)
theorem mlX8_29 {M : ZT} (h : M.1.cls = RX8) : Cond.methodLink M.1.cls 29 yX8_holdsNumber ∈ z_us ∨ ∃ host, Cond.methodLinkNest M.1.cls 29 yX8_holdsNumber host ∈ z_us := by
  rw [h]
  exact Or.inl (z_mem2 171 rfl rfl)
theorem mlX8_26 {M : ZT} (h : M.1.cls = RX8) : Cond.methodLink M.1.cls 26 yX8_holds ∈ z_us ∨ ∃ host, Cond.methodLinkNest M.1.cls 26 yX8_holds host ∈ z_us := by
  rw [h]
  exact Or.inl (z_mem2 175 rfl rfl)
theorem mlX8_33 {M : ZT} (h : M.1.cls = RX8) : Cond.methodLink M.1.cls 33 yX8_cut ∈ z_us ∨ ∃ host, Cond.methodLinkNest M.1.cls 33 yX8_cut host ∈ z_us := by
  rw [h]
  exact Or.inl (z_mem2 176 rfl rfl)
theorem mlL_30 {M : ZT} (h : M.1.cls = RL) : Cond.methodLink M.1.cls 30 yX11_seen ∈ z_us ∨ ∃ host, Cond.methodLinkNest M.1.cls 30 yX11_seen host ∈ z_us := by
  rw [h]
  exact Or.inl (z_mem2 179 rfl rfl)
theorem mlX11_111 {M : ZT} (h : M.1.cls = RX11) : Cond.methodLink M.1.cls 111 yX8_startReading ∈ z_us ∨ ∃ host, Cond.methodLinkNest M.1.cls 111 yX8_startReading host ∈ z_us := by
  rw [h]
  exact Or.inl (z_mem2 183 rfl rfl)
theorem mlX11_114 {M : ZT} (h : M.1.cls = RX11) : Cond.methodLink M.1.cls 114 yX11_readSights ∈ z_us ∨ ∃ host, Cond.methodLinkNest M.1.cls 114 yX11_readSights host ∈ z_us := by
  rw [h]
  exact Or.inl (z_mem2 187 rfl rfl)
theorem mlX11_175 {M : ZT} (h : M.1.cls = RX11) : Cond.methodLink M.1.cls 175 yX6_clear ∈ z_us ∨ ∃ host, Cond.methodLinkNest M.1.cls 175 yX6_clear host ∈ z_us := by
  rw [h]
  exact Or.inl (z_mem2 191 rfl rfl)
theorem mlX11_292 {M : ZT} (h : M.1.cls = RX11) : Cond.methodLink M.1.cls 292 yX8_readNext ∈ z_us ∨ ∃ host, Cond.methodLinkNest M.1.cls 292 yX8_readNext host ∈ z_us := by
  rw [h]
  exact Or.inl (z_mem2 195 rfl rfl)
theorem mlX11_298 {M : ZT} (h : M.1.cls = RX11) : Cond.methodLink M.1.cls 298 yX11_readSight ∈ z_us ∨ ∃ host, Cond.methodLinkNest M.1.cls 298 yX11_readSight host ∈ z_us := by
  rw [h]
  exact Or.inl (z_mem2 199 rfl rfl)
theorem mlX11_301 {M : ZT} (h : M.1.cls = RX11) : Cond.methodLink M.1.cls 301 yX8_readPlace ∈ z_us ∨ ∃ host, Cond.methodLinkNest M.1.cls 301 yX8_readPlace host ∈ z_us := by
  rw [h]
  exact Or.inl (z_mem2 203 rfl rfl)
theorem mlX8_50 {M : ZT} (h : M.1.cls = RX8) : Cond.methodLink M.1.cls 50 yX8_readNext ∈ z_us ∨ ∃ host, Cond.methodLinkNest M.1.cls 50 yX8_readNext host ∈ z_us := by
  rw [h]
  exact Or.inl (z_mem2 207 rfl rfl)
theorem mlX11_139 {M : ZT} (h : M.1.cls = RX11) : Cond.methodLink M.1.cls 139 yX6_holds ∈ z_us ∨ ∃ host, Cond.methodLinkNest M.1.cls 139 yX6_holds host ∈ z_us := by
  rw [h]
  exact Or.inl (z_mem2 208 rfl rfl)
theorem mlX11_141 {M : ZT} (h : M.1.cls = RX11) : Cond.methodLink M.1.cls 141 yX7_add ∈ z_us ∨ ∃ host, Cond.methodLinkNest M.1.cls 141 yX7_add host ∈ z_us := by
  rw [h]
  exact Or.inl (z_mem2 212 rfl rfl)
theorem mlX7_31 {M : ZT} (h : M.1.cls = RX7) : Cond.methodLink M.1.cls 31 yX6_add ∈ z_us ∨ ∃ host, Cond.methodLinkNest M.1.cls 31 yX6_add host ∈ z_us := by
  rw [h]
  exact Or.inl (z_mem2 216 rfl rfl)
theorem mlL_35 {M : ZT} (h : M.1.cls = RL) : Cond.methodLink M.1.cls 35 yX11_see ∈ z_us ∨ ∃ host, Cond.methodLinkNest M.1.cls 35 yX11_see host ∈ z_us := by
  rw [h]
  exact Or.inl (z_mem2 220 rfl rfl)
theorem mlX11_131 {M : ZT} (h : M.1.cls = RX11) : Cond.methodLink M.1.cls 131 yX11_isPlace ∈ z_us ∨ ∃ host, Cond.methodLinkNest M.1.cls 131 yX11_isPlace host ∈ z_us := by
  rw [h]
  exact Or.inl (z_mem2 224 rfl rfl)
theorem mlX11_135 {M : ZT} (h : M.1.cls = RX11) : Cond.methodLink M.1.cls 135 yX11_isWithin ∈ z_us ∨ ∃ host, Cond.methodLinkNest M.1.cls 135 yX11_isWithin host ∈ z_us := by
  rw [h]
  exact Or.inl (z_mem2 227 rfl rfl)
theorem mlL_40 {M : ZT} (h : M.1.cls = RL) : Cond.methodLink M.1.cls 40 yX11_drop ∈ z_us ∨ ∃ host, Cond.methodLinkNest M.1.cls 40 yX11_drop host ∈ z_us := by
  rw [h]
  exact Or.inl (z_mem2 230 rfl rfl)
theorem mlX11_145 {M : ZT} (h : M.1.cls = RX11) : Cond.methodLink M.1.cls 145 yX6_has ∈ z_us ∨ ∃ host, Cond.methodLinkNest M.1.cls 145 yX6_has host ∈ z_us := by
  rw [h]
  exact Or.inl (z_mem2 234 rfl rfl)
theorem mlX11_148 {M : ZT} (h : M.1.cls = RX11) : Cond.methodLink M.1.cls 148 yX7_remove ∈ z_us ∨ ∃ host, Cond.methodLinkNest M.1.cls 148 yX7_remove host ∈ z_us := by
  rw [h]
  exact Or.inl (z_mem2 238 rfl rfl)
theorem mlX7_35 {M : ZT} (h : M.1.cls = RX7) : Cond.methodLink M.1.cls 35 yX6_has ∈ z_us ∨ ∃ host, Cond.methodLinkNest M.1.cls 35 yX6_has host ∈ z_us := by
  rw [h]
  exact Or.inl (z_mem3 2 rfl rfl)
theorem mlX7_39 {M : ZT} (h : M.1.cls = RX7) : Cond.methodLink M.1.cls 39 yX6_remove ∈ z_us ∨ ∃ host, Cond.methodLinkNest M.1.cls 39 yX6_remove host ∈ z_us := by
  rw [h]
  exact Or.inl (z_mem3 3 rfl rfl)
theorem mlX6_26 {M : ZT} (h : M.1.cls = RX6) : Cond.methodLink M.1.cls 26 yX6_has ∈ z_us ∨ ∃ host, Cond.methodLinkNest M.1.cls 26 yX6_has host ∈ z_us := by
  rw [h]
  exact Or.inl (z_mem3 7 rfl rfl)
theorem mlL_44 {M : ZT} (h : M.1.cls = RL) : Cond.methodLink M.1.cls 44 yX11_straight ∈ z_us ∨ ∃ host, Cond.methodLinkNest M.1.cls 44 yX11_straight host ∈ z_us := by
  rw [h]
  exact Or.inl (z_mem3 8 rfl rfl)
theorem mlX11_151 {M : ZT} (h : M.1.cls = RX11) : Cond.methodLink M.1.cls 151 yX11_addSloped ∈ z_us ∨ ∃ host, Cond.methodLinkNest M.1.cls 151 yX11_addSloped host ∈ z_us := by
  rw [h]
  exact Or.inl (z_mem3 12 rfl rfl)
theorem mlX11_155 {M : ZT} (h : M.1.cls = RX11) : Cond.methodLink M.1.cls 155 yX5_isFull ∈ z_us ∨ ∃ host, Cond.methodLinkNest M.1.cls 155 yX5_isFull host ∈ z_us := by
  rw [h]
  exact Or.inl (z_mem3 16 rfl rfl)
theorem mlX11_289 {M : ZT} (h : M.1.cls = RX11) : Cond.methodLink M.1.cls 289 yX5_draftSlope ∈ z_us ∨ ∃ host, Cond.methodLinkNest M.1.cls 289 yX5_draftSlope host ∈ z_us := by
  rw [h]
  exact Or.inl (z_mem3 20 rfl rfl)
theorem mlX5_27 {M : ZT} (h : M.1.cls = RX5) : Cond.methodLink M.1.cls 27 yJ9_min_7cf53 ∈ z_us ∨ ∃ host, Cond.methodLinkNest M.1.cls 27 yJ9_min_7cf53 host ∈ z_us := by
  rw [h]
  exact Or.inl (z_mem3 24 rfl rfl)
theorem mlX5_33 {M : ZT} (h : M.1.cls = RX5) : Cond.methodLink M.1.cls 33 yX5_draft ∈ z_us ∨ ∃ host, Cond.methodLinkNest M.1.cls 33 yX5_draft host ∈ z_us := by
  rw [h]
  exact Or.inl (z_mem3 27 rfl rfl)
theorem mlX5_23 {M : ZT} (h : M.1.cls = RX5) : Cond.methodLink M.1.cls 23 yX5_isFull ∈ z_us ∨ ∃ host, Cond.methodLinkNest M.1.cls 23 yX5_isFull host ∈ z_us := by
  rw [h]
  exact Or.inl (z_mem3 31 rfl rfl)
theorem mlX11_161 {M : ZT} (h : M.1.cls = RX11) : Cond.methodLink M.1.cls 161 yX5_keepDraft ∈ z_us ∨ ∃ host, Cond.methodLinkNest M.1.cls 161 yX5_keepDraft host ∈ z_us := by
  rw [h]
  exact Or.inl (z_mem3 32 rfl rfl)
theorem mlL_48 {M : ZT} (h : M.1.cls = RL) : Cond.methodLink M.1.cls 48 yX11_capped ∈ z_us ∨ ∃ host, Cond.methodLinkNest M.1.cls 48 yX11_capped host ∈ z_us := by
  rw [h]
  exact Or.inl (z_mem3 36 rfl rfl)
theorem mlL_53 {M : ZT} (h : M.1.cls = RL) : Cond.methodLink M.1.cls 53 yX11_table ∈ z_us ∨ ∃ host, Cond.methodLinkNest M.1.cls 53 yX11_table host ∈ z_us := by
  rw [h]
  exact Or.inl (z_mem3 40 rfl rfl)
theorem mlX11_158 {M : ZT} (h : M.1.cls = RX11) : Cond.methodLink M.1.cls 158 yX11_readTable ∈ z_us ∨ ∃ host, Cond.methodLinkNest M.1.cls 158 yX11_readTable host ∈ z_us := by
  rw [h]
  exact Or.inl (z_mem3 44 rfl rfl)
theorem mlX11_310 {M : ZT} (h : M.1.cls = RX11) : Cond.methodLink M.1.cls 310 yX5_draft ∈ z_us ∨ ∃ host, Cond.methodLinkNest M.1.cls 310 yX5_draft host ∈ z_us := by
  rw [h]
  exact Or.inl (z_mem3 48 rfl rfl)
theorem mlL_57 {M : ZT} (h : M.1.cls = RL) : Cond.methodLink M.1.cls 57 yX11_sum ∈ z_us ∨ ∃ host, Cond.methodLinkNest M.1.cls 57 yX11_sum host ∈ z_us := by
  rw [h]
  exact Or.inl (z_mem3 49 rfl rfl)
theorem mlX11_165 {M : ZT} (h : M.1.cls = RX11) : Cond.methodLink M.1.cls 165 yX5_has ∈ z_us ∨ ∃ host, Cond.methodLinkNest M.1.cls 165 yX5_has host ∈ z_us := by
  rw [h]
  exact Or.inl (z_mem3 53 rfl rfl)
theorem mlX11_166 {M : ZT} (h : M.1.cls = RX11) : Cond.methodLink M.1.cls 166 yX5_draftBoth ∈ z_us ∨ ∃ host, Cond.methodLinkNest M.1.cls 166 yX5_draftBoth host ∈ z_us := by
  rw [h]
  exact Or.inl (z_mem3 57 rfl rfl)
theorem mlX5_37 {M : ZT} (h : M.1.cls = RX5) : Cond.methodLink M.1.cls 37 yX5_tell ∈ z_us ∨ ∃ host, Cond.methodLinkNest M.1.cls 37 yX5_tell host ∈ z_us := by
  rw [h]
  exact Or.inl (z_mem3 61 rfl rfl)
theorem mlX5_19 {M : ZT} (h : M.1.cls = RX5) : Cond.methodLink M.1.cls 19 yX5_has ∈ z_us ∨ ∃ host, Cond.methodLinkNest M.1.cls 19 yX5_has host ∈ z_us := by
  rw [h]
  exact Or.inl (z_mem3 65 rfl rfl)
theorem mlL_61 {M : ZT} (h : M.1.cls = RL) : Cond.methodLink M.1.cls 61 yX11_unlike ∈ z_us ∨ ∃ host, Cond.methodLinkNest M.1.cls 61 yX11_unlike host ∈ z_us := by
  rw [h]
  exact Or.inl (z_mem3 66 rfl rfl)
theorem mlX11_169 {M : ZT} (h : M.1.cls = RX11) : Cond.methodLink M.1.cls 169 yX5_tell ∈ z_us ∨ ∃ host, Cond.methodLinkNest M.1.cls 169 yX5_tell host ∈ z_us := by
  rw [h]
  exact Or.inl (z_mem3 70 rfl rfl)
theorem mlL_65 {M : ZT} (h : M.1.cls = RL) : Cond.methodLink M.1.cls 65 yX11_use ∈ z_us ∨ ∃ host, Cond.methodLinkNest M.1.cls 65 yX11_use host ∈ z_us := by
  rw [h]
  exact Or.inl (z_mem3 71 rfl rfl)
theorem mlL_69 {M : ZT} (h : M.1.cls = RL) : Cond.methodLink M.1.cls 69 yX11_nearest ∈ z_us ∨ ∃ host, Cond.methodLinkNest M.1.cls 69 yX11_nearest host ∈ z_us := by
  rw [h]
  exact Or.inl (z_mem3 75 rfl rfl)
theorem mlL_73 {M : ZT} (h : M.1.cls = RL) : Cond.methodLink M.1.cls 73 yX11_ask ∈ z_us ∨ ∃ host, Cond.methodLinkNest M.1.cls 73 yX11_ask host ∈ z_us := by
  rw [h]
  exact Or.inl (z_mem3 79 rfl rfl)
theorem mlX11_172 {M : ZT} (h : M.1.cls = RX11) : Cond.methodLink M.1.cls 172 yX11_canGuess ∈ z_us ∨ ∃ host, Cond.methodLinkNest M.1.cls 172 yX11_canGuess host ∈ z_us := by
  rw [h]
  exact Or.inl (z_mem3 83 rfl rfl)
theorem mlX11_178 {M : ZT} (h : M.1.cls = RX11) : Cond.methodLink M.1.cls 178 yX6_add ∈ z_us ∨ ∃ host, Cond.methodLinkNest M.1.cls 178 yX6_add host ∈ z_us := by
  rw [h]
  exact Or.inl (z_mem3 87 rfl rfl)
theorem mlX11_181 {M : ZT} (h : M.1.cls = RX11) : Cond.methodLink M.1.cls 181 yX11_guessForAsked ∈ z_us ∨ ∃ host, Cond.methodLinkNest M.1.cls 181 yX11_guessForAsked host ∈ z_us := by
  rw [h]
  exact Or.inl (z_mem3 88 rfl rfl)
theorem mlX11_313 {M : ZT} (h : M.1.cls = RX11) : Cond.methodLink M.1.cls 313 yX2_chooseNearest ∈ z_us ∨ ∃ host, Cond.methodLinkNest M.1.cls 313 yX2_chooseNearest host ∈ z_us := by
  rw [h]
  exact Or.inl (z_mem3 92 rfl rfl)
theorem mlX2_43 {M : ZT} (h : M.1.cls = RX2) : Cond.methodLink M.1.cls 43 yX6_wayTo ∈ z_us ∨ ∃ host, Cond.methodLinkNest M.1.cls 43 yX6_wayTo host ∈ z_us := by
  rw [h]
  exact Or.inl (z_mem3 96 rfl rfl)
theorem mlX6_34 {M : ZT} (h : M.1.cls = RX6) : Cond.methodLink M.1.cls 34 yJ9_abs_0f7a4 ∈ z_us ∨ ∃ host, Cond.methodLinkNest M.1.cls 34 yJ9_abs_0f7a4 host ∈ z_us := by
  rw [h]
  exact Or.inl (z_mem3 100 rfl rfl)
theorem mlX2_47 {M : ZT} (h : M.1.cls = RX2) : Cond.methodLink M.1.cls 47 yX2_countNearer ∈ z_us ∨ ∃ host, Cond.methodLinkNest M.1.cls 47 yX2_countNearer host ∈ z_us := by
  rw [h]
  exact Or.inl (z_mem3 103 rfl rfl)
theorem mlX11_317 {M : ZT} (h : M.1.cls = RX11) : Cond.methodLink M.1.cls 317 yX2_prepare ∈ z_us ∨ ∃ host, Cond.methodLinkNest M.1.cls 317 yX2_prepare host ∈ z_us := by
  rw [h]
  exact Or.inl (z_mem3 107 rfl rfl)
theorem mlX2_50 {M : ZT} (h : M.1.cls = RX2) : Cond.methodLink M.1.cls 50 yX2_measure ∈ z_us ∨ ∃ host, Cond.methodLinkNest M.1.cls 50 yX2_measure host ∈ z_us := by
  rw [h]
  exact Or.inl (z_mem3 111 rfl rfl)
theorem mlX2_71 {M : ZT} (h : M.1.cls = RX2) : Cond.methodLink M.1.cls 71 yX6_way ∈ z_us ∨ ∃ host, Cond.methodLinkNest M.1.cls 71 yX6_way host ∈ z_us := by
  rw [h]
  exact Or.inl (z_mem3 115 rfl rfl)
theorem mlX6_30 {M : ZT} (h : M.1.cls = RX6) : Cond.methodLink M.1.cls 30 yX6_wayTo ∈ z_us ∨ ∃ host, Cond.methodLinkNest M.1.cls 30 yX6_wayTo host ∈ z_us := by
  rw [h]
  exact Or.inl (z_mem3 119 rfl rfl)
theorem mlX2_74 {M : ZT} (h : M.1.cls = RX2) : Cond.methodLink M.1.cls 74 yX5_tell ∈ z_us ∨ ∃ host, Cond.methodLinkNest M.1.cls 74 yX5_tell host ∈ z_us := by
  rw [h]
  exact Or.inl (z_mem3 120 rfl rfl)
theorem mlX2_60 {M : ZT} (h : M.1.cls = RX2) : Cond.methodLink M.1.cls 60 yX2_reachOut ∈ z_us ∨ ∃ host, Cond.methodLinkNest M.1.cls 60 yX2_reachOut host ∈ z_us := by
  rw [h]
  exact Or.inl (z_mem3 121 rfl rfl)
theorem mlX2_64 {M : ZT} (h : M.1.cls = RX2) : Cond.methodLink M.1.cls 64 yX2_fillSquare ∈ z_us ∨ ∃ host, Cond.methodLinkNest M.1.cls 64 yX2_fillSquare host ∈ z_us := by
  rw [h]
  exact Or.inl (z_mem3 125 rfl rfl)
theorem mlX2_85 {M : ZT} (h : M.1.cls = RX2) : Cond.methodLink M.1.cls 85 yX4_put ∈ z_us ∨ ∃ host, Cond.methodLinkNest M.1.cls 85 yX4_put host ∈ z_us := by
  rw [h]
  exact Or.inl (z_mem3 129 rfl rfl)
theorem mlX4_38 {M : ZT} (h : M.1.cls = RX4) : Cond.methodLink M.1.cls 38 yX4_cell ∈ z_us ∨ ∃ host, Cond.methodLinkNest M.1.cls 38 yX4_cell host ∈ z_us := by
  rw [h]
  exact Or.inl (z_mem3 133 rfl rfl)
theorem mlX4_42 {M : ZT} (h : M.1.cls = RX4) : Cond.methodLink M.1.cls 42 yX9_put ∈ z_us ∨ ∃ host, Cond.methodLinkNest M.1.cls 42 yX9_put host ∈ z_us := by
  rw [h]
  exact Or.inl (z_mem3 137 rfl rfl)
theorem mlX2_68 {M : ZT} (h : M.1.cls = RX2) : Cond.methodLink M.1.cls 68 yX2_fillRight ∈ z_us ∨ ∃ host, Cond.methodLinkNest M.1.cls 68 yX2_fillRight host ∈ z_us := by
  rw [h]
  exact Or.inl (z_mem3 138 rfl rfl)
theorem mlX11_242 {M : ZT} (h : M.1.cls = RX11) : Cond.methodLink M.1.cls 242 yX2_unknowns ∈ z_us ∨ ∃ host, Cond.methodLinkNest M.1.cls 242 yX2_unknowns host ∈ z_us := by
  rw [h]
  exact Or.inl (z_mem3 142 rfl rfl)
theorem mlX2_28 {M : ZT} (h : M.1.cls = RX2) : Cond.methodLink M.1.cls 28 yJ9_max_7cf53 ∈ z_us ∨ ∃ host, Cond.methodLinkNest M.1.cls 28 yJ9_max_7cf53 host ∈ z_us := by
  rw [h]
  exact Or.inl (z_mem3 146 rfl rfl)
theorem mlX11_321 {M : ZT} (h : M.1.cls = RX11) : Cond.methodLink M.1.cls 321 yX4_solve ∈ z_us ∨ ∃ host, Cond.methodLinkNest M.1.cls 321 yX4_solve host ∈ z_us := by
  rw [h]
  exact Or.inl (z_mem3 147 rfl rfl)
theorem mlX4_46 {M : ZT} (h : M.1.cls = RX4) : Cond.methodLink M.1.cls 46 yX4_bringPivot ∈ z_us ∨ ∃ host, Cond.methodLinkNest M.1.cls 46 yX4_bringPivot host ∈ z_us := by
  rw [h]
  exact Or.inl (z_mem3 151 rfl rfl)
theorem mlX4_50 {M : ZT} (h : M.1.cls = RX4) : Cond.methodLink M.1.cls 50 yX4_clearColumn ∈ z_us ∨ ∃ host, Cond.methodLinkNest M.1.cls 50 yX4_clearColumn host ∈ z_us := by
  rw [h]
  exact Or.inl (z_mem3 155 rfl rfl)
theorem mlX4_65 {M : ZT} (h : M.1.cls = RX4) : Cond.methodLink M.1.cls 65 yX9_lowest ∈ z_us ∨ ∃ host, Cond.methodLinkNest M.1.cls 65 yX9_lowest host ∈ z_us := by
  rw [h]
  exact Or.inl (z_mem3 159 rfl rfl)
theorem mlX4_72 {M : ZT} (h : M.1.cls = RX4) : Cond.methodLink M.1.cls 72 yX9_multiply ∈ z_us ∨ ∃ host, Cond.methodLinkNest M.1.cls 72 yX9_multiply host ∈ z_us := by
  rw [h]
  exact Or.inl (z_mem3 163 rfl rfl)
theorem mlX4_76 {M : ZT} (h : M.1.cls = RX4) : Cond.methodLink M.1.cls 76 yX9_addTimes ∈ z_us ∨ ∃ host, Cond.methodLinkNest M.1.cls 76 yX9_addTimes host ∈ z_us := by
  rw [h]
  exact Or.inl (z_mem3 167 rfl rfl)
theorem mlX9_41 {M : ZT} (h : M.1.cls = RX9) : Cond.methodLink M.1.cls 41 yJ9_max_7cf53 ∈ z_us ∨ ∃ host, Cond.methodLinkNest M.1.cls 41 yJ9_max_7cf53 host ∈ z_us := by
  rw [h]
  exact Or.inl (z_mem3 171 rfl rfl)
theorem mlX9_45 {M : ZT} (h : M.1.cls = RX9) : Cond.methodLink M.1.cls 45 yJ9_min_7cf53 ∈ z_us ∨ ∃ host, Cond.methodLinkNest M.1.cls 45 yJ9_min_7cf53 host ∈ z_us := by
  rw [h]
  exact Or.inl (z_mem3 172 rfl rfl)
theorem mlX9_48 {M : ZT} (h : M.1.cls = RX9) : Cond.methodLink M.1.cls 48 yX9_complement ∈ z_us ∨ ∃ host, Cond.methodLinkNest M.1.cls 48 yX9_complement host ∈ z_us := by
  rw [h]
  exact Or.inl (z_mem3 173 rfl rfl)
theorem mlX4_80 {M : ZT} (h : M.1.cls = RX4) : Cond.methodLink M.1.cls 80 yX1_divide ∈ z_us ∨ ∃ host, Cond.methodLinkNest M.1.cls 80 yX1_divide host ∈ z_us := by
  rw [h]
  exact Or.inl (z_mem3 177 rfl rfl)
theorem mlX1_31 {M : ZT} (h : M.1.cls = RX1) : Cond.methodLink M.1.cls 31 yX1_divideByPart ∈ z_us ∨ ∃ host, Cond.methodLinkNest M.1.cls 31 yX1_divideByPart host ∈ z_us := by
  rw [h]
  exact Or.inl (z_mem3 181 rfl rfl)
theorem mlX1_45 {M : ZT} (h : M.1.cls = RX1) : Cond.methodLink M.1.cls 45 yJ9_max_7cf53 ∈ z_us ∨ ∃ host, Cond.methodLinkNest M.1.cls 45 yJ9_max_7cf53 host ∈ z_us := by
  rw [h]
  exact Or.inl (z_mem3 185 rfl rfl)
theorem ctX1_39 : Cond.constantLong RX1 39 (1000000000) ∈ z_us := z_mem3 186 rfl rfl
theorem mlX1_35 {M : ZT} (h : M.1.cls = RX1) : Cond.methodLink M.1.cls 35 yX9_trim ∈ z_us ∨ ∃ host, Cond.methodLinkNest M.1.cls 35 yX9_trim host ∈ z_us := by
  rw [h]
  exact Or.inr ⟨"NeighbourBoard", (z_mem3 187 rfl rfl)⟩
theorem mlX1_51 {M : ZT} (h : M.1.cls = RX1) : Cond.methodLink M.1.cls 51 yX1_copyScaled ∈ z_us ∨ ∃ host, Cond.methodLinkNest M.1.cls 51 yX1_copyScaled host ∈ z_us := by
  rw [h]
  exact Or.inl (z_mem3 188 rfl rfl)
theorem mlX1_55 {M : ZT} (h : M.1.cls = RX1) : Cond.methodLink M.1.cls 55 yX9_clear ∈ z_us ∨ ∃ host, Cond.methodLinkNest M.1.cls 55 yX9_clear host ∈ z_us := by
  rw [h]
  exact Or.inr ⟨"NeighbourBoard", (z_mem3 192 rfl rfl)⟩
theorem mlX1_58 {M : ZT} (h : M.1.cls = RX1) : Cond.methodLink M.1.cls 58 yX1_guessPart ∈ z_us ∨ ∃ host, Cond.methodLinkNest M.1.cls 58 yX1_guessPart host ∈ z_us := by
  rw [h]
  exact Or.inl (z_mem3 193 rfl rfl)
theorem mlX1_62 {M : ZT} (h : M.1.cls = RX1) : Cond.methodLink M.1.cls 62 yX1_takeAway ∈ z_us ∨ ∃ host, Cond.methodLinkNest M.1.cls 62 yX1_takeAway host ∈ z_us := by
  rw [h]
  exact Or.inl (z_mem3 197 rfl rfl)
theorem mlX1_66 {M : ZT} (h : M.1.cls = RX1) : Cond.methodLink M.1.cls 66 yX1_giveBack ∈ z_us ∨ ∃ host, Cond.methodLinkNest M.1.cls 66 yX1_giveBack host ∈ z_us := by
  rw [h]
  exact Or.inl (z_mem3 201 rfl rfl)
theorem mlX4_54 {M : ZT} (h : M.1.cls = RX4) : Cond.methodLink M.1.cls 54 yX9_copyFrom ∈ z_us ∨ ∃ host, Cond.methodLinkNest M.1.cls 54 yX9_copyFrom host ∈ z_us := by
  rw [h]
  exact Or.inl (z_mem3 205 rfl rfl)
theorem mlX11_324 {M : ZT} (h : M.1.cls = RX11) : Cond.methodLink M.1.cls 324 yX2_unlikeWithin ∈ z_us ∨ ∃ host, Cond.methodLinkNest M.1.cls 324 yX2_unlikeWithin host ∈ z_us := by
  rw [h]
  exact Or.inl (z_mem3 209 rfl rfl)
theorem mlX11_328 {M : ZT} (h : M.1.cls = RX11) : Cond.methodLink M.1.cls 328 yX0_take ∈ z_us ∨ ∃ host, Cond.methodLinkNest M.1.cls 328 yX0_take host ∈ z_us := by
  rw [h]
  exact Or.inl (z_mem3 213 rfl rfl)
theorem mlX0_38 {M : ZT} (h : M.1.cls = RX0) : Cond.methodLink M.1.cls 38 yX9_put ∈ z_us ∨ ∃ host, Cond.methodLinkNest M.1.cls 38 yX9_put host ∈ z_us := by
  rw [h]
  exact Or.inl (z_mem3 217 rfl rfl)
theorem mlX0_51 {M : ZT} (h : M.1.cls = RX0) : Cond.methodLink M.1.cls 51 yX9_addTimes ∈ z_us ∨ ∃ host, Cond.methodLinkNest M.1.cls 51 yX9_addTimes host ∈ z_us := by
  rw [h]
  exact Or.inl (z_mem3 218 rfl rfl)
theorem mlX0_55 {M : ZT} (h : M.1.cls = RX0) : Cond.methodLink M.1.cls 55 yX0_takeWeights ∈ z_us ∨ ∃ host, Cond.methodLinkNest M.1.cls 55 yX0_takeWeights host ∈ z_us := by
  rw [h]
  exact Or.inl (z_mem3 219 rfl rfl)
theorem mlX0_77 {M : ZT} (h : M.1.cls = RX0) : Cond.methodLink M.1.cls 77 yX9_copyFrom ∈ z_us ∨ ∃ host, Cond.methodLinkNest M.1.cls 77 yX9_copyFrom host ∈ z_us := by
  rw [h]
  exact Or.inl (z_mem3 223 rfl rfl)
theorem mlX0_81 {M : ZT} (h : M.1.cls = RX0) : Cond.methodLink M.1.cls 81 yX4_cell ∈ z_us ∨ ∃ host, Cond.methodLinkNest M.1.cls 81 yX4_cell host ∈ z_us := by
  rw [h]
  exact Or.inl (z_mem3 224 rfl rfl)
theorem mlL_77 {M : ZT} (h : M.1.cls = RL) : Cond.methodLink M.1.cls 77 yX11_mean ∈ z_us ∨ ∃ host, Cond.methodLinkNest M.1.cls 77 yX11_mean host ∈ z_us := by
  rw [h]
  exact Or.inl (z_mem3 225 rfl rfl)
theorem mlX11_184 {M : ZT} (h : M.1.cls = RX11) : Cond.methodLink M.1.cls 184 yX11_readAsked ∈ z_us ∨ ∃ host, Cond.methodLinkNest M.1.cls 184 yX11_readAsked host ∈ z_us := by
  rw [h]
  exact Or.inl (z_mem3 229 rfl rfl)
theorem mlL_81 {M : ZT} (h : M.1.cls = RL) : Cond.methodLink M.1.cls 81 yX11_answer ∈ z_us ∨ ∃ host, Cond.methodLinkNest M.1.cls 81 yX11_answer host ∈ z_us := by
  rw [h]
  exact Or.inl (z_mem3 233 rfl rfl)
theorem mlX11_194 {M : ZT} (h : M.1.cls = RX11) : Cond.methodLink M.1.cls 194 yX11_setResult ∈ z_us ∨ ∃ host, Cond.methodLinkNest M.1.cls 194 yX11_setResult host ∈ z_us := by
  rw [h]
  exact Or.inl (z_mem3 237 rfl rfl)
theorem mlX11_336 {M : ZT} (h : M.1.cls = RX11) : Cond.methodLink M.1.cls 336 yX9_copyFrom ∈ z_us ∨ ∃ host, Cond.methodLinkNest M.1.cls 336 yX9_copyFrom host ∈ z_us := by
  rw [h]
  exact Or.inl (z_mem4 1 rfl rfl)
theorem mlX11_339 {M : ZT} (h : M.1.cls = RX11) : Cond.methodLink M.1.cls 339 yX10_reduce ∈ z_us ∨ ∃ host, Cond.methodLinkNest M.1.cls 339 yX10_reduce host ∈ z_us := by
  rw [h]
  exact Or.inl (z_mem4 2 rfl rfl)
theorem mlX10_45 {M : ZT} (h : M.1.cls = RX10) : Cond.methodLink M.1.cls 45 yX10_findShared ∈ z_us ∨ ∃ host, Cond.methodLinkNest M.1.cls 45 yX10_findShared host ∈ z_us := by
  rw [h]
  exact Or.inl (z_mem4 6 rfl rfl)
theorem mlX10_60 {M : ZT} (h : M.1.cls = RX10) : Cond.methodLink M.1.cls 60 yX9_copyFrom ∈ z_us ∨ ∃ host, Cond.methodLinkNest M.1.cls 60 yX9_copyFrom host ∈ z_us := by
  rw [h]
  exact Or.inl (z_mem4 10 rfl rfl)
theorem ctX10_64 : Cond.constant RX10 64 (1000000) ∈ z_us := z_mem4 11 rfl rfl
theorem mlX10_56 {M : ZT} (h : M.1.cls = RX10) : Cond.methodLink M.1.cls 56 yX1_divide ∈ z_us ∨ ∃ host, Cond.methodLinkNest M.1.cls 56 yX1_divide host ∈ z_us := by
  rw [h]
  exact Or.inl (z_mem4 12 rfl rfl)
theorem mlX10_65 {M : ZT} (h : M.1.cls = RX10) : Cond.methodLink M.1.cls 65 yX1_takeRest ∈ z_us ∨ ∃ host, Cond.methodLinkNest M.1.cls 65 yX1_takeRest host ∈ z_us := by
  rw [h]
  exact Or.inl (z_mem4 13 rfl rfl)
theorem mlL_85 {M : ZT} (h : M.1.cls = RL) : Cond.methodLink M.1.cls 85 yX11_leftOut ∈ z_us ∨ ∃ host, Cond.methodLinkNest M.1.cls 85 yX11_leftOut host ∈ z_us := by
  rw [h]
  exact Or.inl (z_mem4 17 rfl rfl)
theorem mlX11_211 {M : ZT} (h : M.1.cls = RX11) : Cond.methodLink M.1.cls 211 yX11_leaveOut ∈ z_us ∨ ∃ host, Cond.methodLinkNest M.1.cls 211 yX11_leaveOut host ∈ z_us := by
  rw [h]
  exact Or.inl (z_mem4 21 rfl rfl)
theorem mlX11_231 {M : ZT} (h : M.1.cls = RX11) : Cond.methodLink M.1.cls 231 yX2_chooseAllBut ∈ z_us ∨ ∃ host, Cond.methodLinkNest M.1.cls 231 yX2_chooseAllBut host ∈ z_us := by
  rw [h]
  exact Or.inl (z_mem4 25 rfl rfl)
theorem mlX11_332 {M : ZT} (h : M.1.cls = RX11) : Cond.methodLink M.1.cls 332 yX2_tellOff ∈ z_us ∨ ∃ host, Cond.methodLinkNest M.1.cls 332 yX2_tellOff host ∈ z_us := by
  rw [h]
  exact Or.inl (z_mem4 29 rfl rfl)
theorem mlX2_94 {M : ZT} (h : M.1.cls = RX2) : Cond.methodLink M.1.cls 94 yX6_has ∈ z_us ∨ ∃ host, Cond.methodLinkNest M.1.cls 94 yX6_has host ∈ z_us := by
  rw [h]
  exact Or.inl (z_mem4 33 rfl rfl)
theorem mlX2_105 {M : ZT} (h : M.1.cls = RX2) : Cond.methodLink M.1.cls 105 yX9_copyFrom ∈ z_us ∨ ∃ host, Cond.methodLinkNest M.1.cls 105 yX9_copyFrom host ∈ z_us := by
  rw [h]
  exact Or.inl (z_mem4 34 rfl rfl)
theorem mlX2_114 {M : ZT} (h : M.1.cls = RX2) : Cond.methodLink M.1.cls 114 yX9_put ∈ z_us ∨ ∃ host, Cond.methodLinkNest M.1.cls 114 yX9_put host ∈ z_us := by
  rw [h]
  exact Or.inl (z_mem4 35 rfl rfl)
theorem mlX2_117 {M : ZT} (h : M.1.cls = RX2) : Cond.methodLink M.1.cls 117 yX9_addTimes ∈ z_us ∨ ∃ host, Cond.methodLinkNest M.1.cls 117 yX9_addTimes host ∈ z_us := by
  rw [h]
  exact Or.inl (z_mem4 36 rfl rfl)
theorem mlX2_121 {M : ZT} (h : M.1.cls = RX2) : Cond.methodLink M.1.cls 121 yX4_cell ∈ z_us ∨ ∃ host, Cond.methodLinkNest M.1.cls 121 yX4_cell host ∈ z_us := by
  rw [h]
  exact Or.inl (z_mem4 37 rfl rfl)
theorem mlL_89 {M : ZT} (h : M.1.cls = RL) : Cond.methodLink M.1.cls 89 yX11_worst ∈ z_us ∨ ∃ host, Cond.methodLinkNest M.1.cls 89 yX11_worst host ∈ z_us := by
  rw [h]
  exact Or.inl (z_mem4 38 rfl rfl)
theorem mlX11_218 {M : ZT} (h : M.1.cls = RX11) : Cond.methodLink M.1.cls 218 yX11_findWorst ∈ z_us ∨ ∃ host, Cond.methodLinkNest M.1.cls 218 yX11_findWorst host ∈ z_us := by
  rw [h]
  exact Or.inl (z_mem4 42 rfl rfl)
theorem mlX11_223 {M : ZT} (h : M.1.cls = RX11) : Cond.methodLink M.1.cls 223 yX10_isLarger ∈ z_us ∨ ∃ host, Cond.methodLinkNest M.1.cls 223 yX10_isLarger host ∈ z_us := by
  rw [h]
  exact Or.inl (z_mem4 46 rfl rfl)
theorem mlX10_37 {M : ZT} (h : M.1.cls = RX10) : Cond.methodLink M.1.cls 37 yX9_multiply ∈ z_us ∨ ∃ host, Cond.methodLinkNest M.1.cls 37 yX9_multiply host ∈ z_us := by
  rw [h]
  exact Or.inl (z_mem4 50 rfl rfl)
theorem mlX10_41 {M : ZT} (h : M.1.cls = RX10) : Cond.methodLink M.1.cls 41 yX9_compareSize ∈ z_us ∨ ∃ host, Cond.methodLinkNest M.1.cls 41 yX9_compareSize host ∈ z_us := by
  rw [h]
  exact Or.inl (z_mem4 51 rfl rfl)
theorem mlX11_227 {M : ZT} (h : M.1.cls = RX11) : Cond.methodLink M.1.cls 227 yX3_copyFrom ∈ z_us ∨ ∃ host, Cond.methodLinkNest M.1.cls 227 yX3_copyFrom host ∈ z_us := by
  rw [h]
  exact Or.inl (z_mem4 55 rfl rfl)
theorem mlX3_23 {M : ZT} (h : M.1.cls = RX3) : Cond.methodLink M.1.cls 23 yX9_copyFrom ∈ z_us ∨ ∃ host, Cond.methodLinkNest M.1.cls 23 yX9_copyFrom host ∈ z_us := by
  rw [h]
  exact Or.inl (z_mem4 59 rfl rfl)
theorem mlL_94 {M : ZT} (h : M.1.cls = RL) : Cond.methodLink M.1.cls 94 yX11_best ∈ z_us ∨ ∃ host, Cond.methodLinkNest M.1.cls 94 yX11_best host ∈ z_us := by
  rw [h]
  exact Or.inl (z_mem4 60 rfl rfl)
theorem mlL_98 {M : ZT} (h : M.1.cls = RL) : Cond.methodLink M.1.cls 98 yX11_allowed ∈ z_us ∨ ∃ host, Cond.methodLinkNest M.1.cls 98 yX11_allowed host ∈ z_us := by
  rw [h]
  exact Or.inl (z_mem4 64 rfl rfl)
theorem mlX11_234 {M : ZT} (h : M.1.cls = RX11) : Cond.methodLink M.1.cls 234 yX2_measure ∈ z_us ∨ ∃ host, Cond.methodLinkNest M.1.cls 234 yX2_measure host ∈ z_us := by
  rw [h]
  exact Or.inl (z_mem4 68 rfl rfl)
theorem mlX11_238 {M : ZT} (h : M.1.cls = RX11) : Cond.methodLink M.1.cls 238 yX2_fillSquare ∈ z_us ∨ ∃ host, Cond.methodLinkNest M.1.cls 238 yX2_fillSquare host ∈ z_us := by
  rw [h]
  exact Or.inl (z_mem4 69 rfl rfl)
theorem mlX11_245 {M : ZT} (h : M.1.cls = RX11) : Cond.methodLink M.1.cls 245 yX4_judge ∈ z_us ∨ ∃ host, Cond.methodLinkNest M.1.cls 245 yX4_judge host ∈ z_us := by
  rw [h]
  exact Or.inl (z_mem4 70 rfl rfl)
theorem mlX4_62 {M : ZT} (h : M.1.cls = RX4) : Cond.methodLink M.1.cls 62 yX4_isZeroBehind ∈ z_us ∨ ∃ host, Cond.methodLinkNest M.1.cls 62 yX4_isZeroBehind host ∈ z_us := by
  rw [h]
  exact Or.inl (z_mem4 74 rfl rfl)
theorem mlL_102 {M : ZT} (h : M.1.cls = RL) : Cond.methodLink M.1.cls 102 yX11_pairs ∈ z_us ∨ ∃ host, Cond.methodLinkNest M.1.cls 102 yX11_pairs host ∈ z_us := by
  rw [h]
  exact Or.inl (z_mem4 78 rfl rfl)
theorem mlX11_248 {M : ZT} (h : M.1.cls = RX11) : Cond.methodLink M.1.cls 248 yX6_way ∈ z_us ∨ ∃ host, Cond.methodLinkNest M.1.cls 248 yX6_way host ∈ z_us := by
  rw [h]
  exact Or.inl (z_mem4 82 rfl rfl)
theorem mlL_106 {M : ZT} (h : M.1.cls = RL) : Cond.methodLink M.1.cls 106 yX11_band ∈ z_us ∨ ∃ host, Cond.methodLinkNest M.1.cls 106 yX11_band host ∈ z_us := by
  rw [h]
  exact Or.inl (z_mem4 83 rfl rfl)
theorem mlX11_251 {M : ZT} (h : M.1.cls = RX11) : Cond.methodLink M.1.cls 251 yX11_pairs ∈ z_us ∨ ∃ host, Cond.methodLinkNest M.1.cls 251 yX11_pairs host ∈ z_us := by
  rw [h]
  exact Or.inl (z_mem4 87 rfl rfl)
theorem mlX11_258 {M : ZT} (h : M.1.cls = RX11) : Cond.methodLink M.1.cls 258 yX9_put ∈ z_us ∨ ∃ host, Cond.methodLinkNest M.1.cls 258 yX9_put host ∈ z_us := by
  rw [h]
  exact Or.inl (z_mem4 88 rfl rfl)
theorem ctX11_263 : Cond.constantLong RX11 263 (2) ∈ z_us := z_mem4 89 rfl rfl
theorem mlL_111 {M : ZT} (h : M.1.cls = RL) : Cond.methodLink M.1.cls 111 yX11_look ∈ z_us ∨ ∃ host, Cond.methodLinkNest M.1.cls 111 yX11_look host ∈ z_us := by
  rw [h]
  exact Or.inl (z_mem4 90 rfl rfl)
theorem mlX11_269 {M : ZT} (h : M.1.cls = RX11) : Cond.methodLink M.1.cls 269 yJ9_max_7cf53 ∈ z_us ∨ ∃ host, Cond.methodLinkNest M.1.cls 269 yJ9_max_7cf53 host ∈ z_us := by
  rw [h]
  exact Or.inl (z_mem4 94 rfl rfl)
theorem mlL_115 {M : ZT} (h : M.1.cls = RL) : Cond.methodLink M.1.cls 115 yX11_part ∈ z_us ∨ ∃ host, Cond.methodLinkNest M.1.cls 115 yX11_part host ∈ z_us := by
  rw [h]
  exact Or.inl (z_mem4 95 rfl rfl)
theorem mlL_120 {M : ZT} (h : M.1.cls = RL) : Cond.methodLink M.1.cls 120 yX11_told ∈ z_us ∨ ∃ host, Cond.methodLinkNest M.1.cls 120 yX11_told host ∈ z_us := by
  rw [h]
  exact Or.inl (z_mem4 99 rfl rfl)
theorem mlL_124 {M : ZT} (h : M.1.cls = RL) : Cond.methodLink M.1.cls 124 yX11_count ∈ z_us ∨ ∃ host, Cond.methodLinkNest M.1.cls 124 yX11_count host ∈ z_us := by
  rw [h]
  exact Or.inl (z_mem4 103 rfl rfl)
theorem mlX11_286 {M : ZT} (h : M.1.cls = RX11) : Cond.methodLink M.1.cls 286 yX8_countHeld ∈ z_us ∨ ∃ host, Cond.methodLinkNest M.1.cls 286 yX8_countHeld host ∈ z_us := by
  rw [h]
  exact Or.inl (z_mem4 107 rfl rfl)
theorem clL_10 : Cond.classLink RL 10 RX12 ∈ z_us := z_mem4 111 rfl rfl
theorem in_X12 : Cond.instantiable RX12 30 ∈ z_us := z_mem4 112 rfl rfl
theorem iz_X12 : Cond.initialized RX12 ∈ z_us := z_mem1 15 rfl rfl
theorem mlL_12 {M : ZT} (h : M.1.cls = RL) : Cond.methodLink M.1.cls 12 yX12_init ∈ z_us ∨ ∃ host, Cond.methodLinkNest M.1.cls 12 yX12_init host ∈ z_us := by
  rw [h]
  exact Or.inl (z_mem4 113 rfl rfl)
theorem mlX12_3 : Cond.methodLink RX12 3 objectInit ∈ z_us := z_mem4 116 rfl rfl
theorem mlX12_73 {M : ZT} (h : M.1.cls = RX12) : Cond.methodLink M.1.cls 73 yX12_set ∈ z_us ∨ ∃ host, Cond.methodLinkNest M.1.cls 73 yX12_set host ∈ z_us := by
  rw [h]
  exact Or.inl (z_mem4 117 rfl rfl)
theorem mlX12_88 {M : ZT} (h : M.1.cls = RX12) : Cond.methodLink M.1.cls 88 yX12_carry ∈ z_us ∨ ∃ host, Cond.methodLinkNest M.1.cls 88 yX12_carry host ∈ z_us := by
  rw [h]
  exact Or.inl (z_mem4 121 rfl rfl)
theorem ctX12_77 : Cond.constantLong RX12 77 (1000000000) ∈ z_us := z_mem4 125 rfl rfl
theorem mlX12_79 {M : ZT} (h : M.1.cls = RX12) : Cond.methodLink M.1.cls 79 yJ9_floorMod_f86c9 ∈ z_us ∨ ∃ host, Cond.methodLinkNest M.1.cls 79 yJ9_floorMod_f86c9 host ∈ z_us := by
  rw [h]
  exact Or.inl (z_mem4 126 rfl rfl)
theorem mlX12_85 {M : ZT} (h : M.1.cls = RX12) : Cond.methodLink M.1.cls 85 yJ9_floorDiv_f86c9 ∈ z_us ∨ ∃ host, Cond.methodLinkNest M.1.cls 85 yJ9_floorDiv_f86c9 host ∈ z_us := by
  rw [h]
  exact Or.inl (z_mem4 129 rfl rfl)
theorem flX12_9 {M : ZT} (h : M.1.cls = RX12) : z_fl M 9 TX12 0 := by
  unfold z_fl
  rw [h]
  exact Or.inl (z_mem4 132 rfl rfl)
theorem plX12_9 {M : ZT} (h : M.1.cls = RX12) (hi : M.1.name = "<init>") : z_pl M 9 TX12 0 := Or.inr ⟨rfl, by rw [h]; exact (z_mem4 132 rfl rfl), hi, by rw [h]; rfl⟩
theorem flX12_13 {M : ZT} (h : M.1.cls = RX12) : z_fl M 13 TX12 1 := by
  unfold z_fl
  rw [h]
  exact Or.inl (z_mem4 133 rfl rfl)
theorem plX12_13 {M : ZT} (h : M.1.cls = RX12) (hi : M.1.name = "<init>") : z_pl M 13 TX12 1 := Or.inr ⟨rfl, by rw [h]; exact (z_mem4 133 rfl rfl), hi, by rw [h]; rfl⟩
theorem flX12_17 {M : ZT} (h : M.1.cls = RX12) : z_fl M 17 TX12 2 := by
  unfold z_fl
  rw [h]
  exact Or.inl (z_mem4 134 rfl rfl)
theorem plX12_17 {M : ZT} (h : M.1.cls = RX12) (hi : M.1.name = "<init>") : z_pl M 17 TX12 2 := Or.inr ⟨rfl, by rw [h]; exact (z_mem4 134 rfl rfl), hi, by rw [h]; rfl⟩
theorem flX12_20 {M : ZT} (h : M.1.cls = RX12) : z_fl M 20 TX12 3 := by
  unfold z_fl
  rw [h]
  exact Or.inl (z_mem4 135 rfl rfl)
theorem plX12_20 {M : ZT} (h : M.1.cls = RX12) (hi : M.1.name = "<init>") : z_pl M 20 TX12 3 := Or.inr ⟨rfl, by rw [h]; exact (z_mem4 135 rfl rfl), hi, by rw [h]; rfl⟩
theorem flX12_167 {M : ZT} (h : M.1.cls = RX12) : z_fl M 167 TX12 4 := by
  unfold z_fl
  rw [h]
  exact Or.inl (z_mem4 136 rfl rfl)
theorem plX12_167 {M : ZT} (h : M.1.cls = RX12) : z_pl M 167 TX12 4 := Or.inl ⟨rfl, flX12_167 h⟩
theorem flX12_23 {M : ZT} (h : M.1.cls = RX12) : z_fl M 23 TX12 5 := by
  unfold z_fl
  rw [h]
  exact Or.inl (z_mem4 137 rfl rfl)
theorem plX12_23 {M : ZT} (h : M.1.cls = RX12) (hi : M.1.name = "<init>") : z_pl M 23 TX12 5 := Or.inr ⟨rfl, by rw [h]; exact (z_mem4 137 rfl rfl), hi, by rw [h]; rfl⟩
theorem flX12_26 {M : ZT} (h : M.1.cls = RX12) : z_fl M 26 TX12 6 := by
  unfold z_fl
  rw [h]
  exact Or.inl (z_mem4 138 rfl rfl)
theorem plX12_26 {M : ZT} (h : M.1.cls = RX12) (hi : M.1.name = "<init>") : z_pl M 26 TX12 6 := Or.inr ⟨rfl, by rw [h]; exact (z_mem4 138 rfl rfl), hi, by rw [h]; rfl⟩
theorem flX12_29 {M : ZT} (h : M.1.cls = RX12) : z_fl M 29 TX12 7 := by
  unfold z_fl
  rw [h]
  exact Or.inl (z_mem4 139 rfl rfl)
theorem plX12_29 {M : ZT} (h : M.1.cls = RX12) (hi : M.1.name = "<init>") : z_pl M 29 TX12 7 := Or.inr ⟨rfl, by rw [h]; exact (z_mem4 139 rfl rfl), hi, by rw [h]; rfl⟩
theorem flX12_32 {M : ZT} (h : M.1.cls = RX12) : z_fl M 32 TX12 8 := by
  unfold z_fl
  rw [h]
  exact Or.inl (z_mem4 140 rfl rfl)
theorem plX12_32 {M : ZT} (h : M.1.cls = RX12) (hi : M.1.name = "<init>") : z_pl M 32 TX12 8 := Or.inr ⟨rfl, by rw [h]; exact (z_mem4 140 rfl rfl), hi, by rw [h]; rfl⟩
theorem flX12_193 {M : ZT} (h : M.1.cls = RX12) : z_fl M 193 TX12 9 := by
  unfold z_fl
  rw [h]
  exact Or.inl (z_mem4 141 rfl rfl)
theorem plX12_193 {M : ZT} (h : M.1.cls = RX12) : z_pl M 193 TX12 9 := Or.inl ⟨rfl, flX12_193 h⟩
theorem flX12_35 {M : ZT} (h : M.1.cls = RX12) : z_fl M 35 TX12 10 := by
  unfold z_fl
  rw [h]
  exact Or.inl (z_mem4 142 rfl rfl)
theorem plX12_35 {M : ZT} (h : M.1.cls = RX12) (hi : M.1.name = "<init>") : z_pl M 35 TX12 10 := Or.inr ⟨rfl, by rw [h]; exact (z_mem4 142 rfl rfl), hi, by rw [h]; rfl⟩
theorem flX12_38 {M : ZT} (h : M.1.cls = RX12) : z_fl M 38 TX12 11 := by
  unfold z_fl
  rw [h]
  exact Or.inl (z_mem4 143 rfl rfl)
theorem plX12_38 {M : ZT} (h : M.1.cls = RX12) : z_pl M 38 TX12 11 := Or.inl ⟨rfl, flX12_38 h⟩
theorem flX12_42 {M : ZT} (h : M.1.cls = RX12) : z_fl M 42 TX12 12 := by
  unfold z_fl
  rw [h]
  exact Or.inl (z_mem4 144 rfl rfl)
theorem plX12_42 {M : ZT} (h : M.1.cls = RX12) : z_pl M 42 TX12 12 := Or.inl ⟨rfl, flX12_42 h⟩
theorem flX12_186 {M : ZT} (h : M.1.cls = RX12) : z_fl M 186 TX12 13 := by
  unfold z_fl
  rw [h]
  exact Or.inl (z_mem4 145 rfl rfl)
theorem plX12_186 {M : ZT} (h : M.1.cls = RX12) : z_pl M 186 TX12 13 := Or.inl ⟨rfl, flX12_186 h⟩
theorem flX12_45 {M : ZT} (h : M.1.cls = RX12) : z_fl M 45 TX12 14 := by
  unfold z_fl
  rw [h]
  exact Or.inl (z_mem4 146 rfl rfl)
theorem plX12_45 {M : ZT} (h : M.1.cls = RX12) (hi : M.1.name = "<init>") : z_pl M 45 TX12 14 := Or.inr ⟨rfl, by rw [h]; exact (z_mem4 146 rfl rfl), hi, by rw [h]; rfl⟩
theorem flX12_48 {M : ZT} (h : M.1.cls = RX12) : z_fl M 48 TX12 15 := by
  unfold z_fl
  rw [h]
  exact Or.inl (z_mem4 147 rfl rfl)
theorem plX12_48 {M : ZT} (h : M.1.cls = RX12) (hi : M.1.name = "<init>") : z_pl M 48 TX12 15 := Or.inr ⟨rfl, by rw [h]; exact (z_mem4 147 rfl rfl), hi, by rw [h]; rfl⟩
theorem flX12_51 {M : ZT} (h : M.1.cls = RX12) : z_fl M 51 TX12 16 := by
  unfold z_fl
  rw [h]
  exact Or.inl (z_mem4 148 rfl rfl)
theorem plX12_51 {M : ZT} (h : M.1.cls = RX12) (hi : M.1.name = "<init>") : z_pl M 51 TX12 16 := Or.inr ⟨rfl, by rw [h]; exact (z_mem4 148 rfl rfl), hi, by rw [h]; rfl⟩
theorem flX12_150 {M : ZT} (h : M.1.cls = RX12) : z_fl M 150 TX12 17 := by
  unfold z_fl
  rw [h]
  exact Or.inl (z_mem4 149 rfl rfl)
theorem plX12_150 {M : ZT} (h : M.1.cls = RX12) : z_pl M 150 TX12 17 := Or.inl ⟨rfl, flX12_150 h⟩
theorem flX12_157 {M : ZT} (h : M.1.cls = RX12) : z_fl M 157 TX12 18 := by
  unfold z_fl
  rw [h]
  exact Or.inl (z_mem4 150 rfl rfl)
theorem plX12_157 {M : ZT} (h : M.1.cls = RX12) : z_pl M 157 TX12 18 := Or.inl ⟨rfl, flX12_157 h⟩
theorem flX12_144 {M : ZT} (h : M.1.cls = RX12) : z_fl M 144 TX12 19 := by
  unfold z_fl
  rw [h]
  exact Or.inl (z_mem4 151 rfl rfl)
theorem plX12_144 {M : ZT} (h : M.1.cls = RX12) : z_pl M 144 TX12 19 := Or.inl ⟨rfl, flX12_144 h⟩
theorem flX12_147 {M : ZT} (h : M.1.cls = RX12) : z_fl M 147 TX12 20 := by
  unfold z_fl
  rw [h]
  exact Or.inl (z_mem4 152 rfl rfl)
theorem plX12_147 {M : ZT} (h : M.1.cls = RX12) : z_pl M 147 TX12 20 := Or.inl ⟨rfl, flX12_147 h⟩
theorem flX12_54 {M : ZT} (h : M.1.cls = RX12) : z_fl M 54 TX12 21 := by
  unfold z_fl
  rw [h]
  exact Or.inl (z_mem4 153 rfl rfl)
theorem plX12_54 {M : ZT} (h : M.1.cls = RX12) (hi : M.1.name = "<init>") : z_pl M 54 TX12 21 := Or.inr ⟨rfl, by rw [h]; exact (z_mem4 153 rfl rfl), hi, by rw [h]; rfl⟩
theorem flX12_57 {M : ZT} (h : M.1.cls = RX12) : z_fl M 57 TX12 22 := by
  unfold z_fl
  rw [h]
  exact Or.inl (z_mem4 154 rfl rfl)
theorem plX12_57 {M : ZT} (h : M.1.cls = RX12) (hi : M.1.name = "<init>") : z_pl M 57 TX12 22 := Or.inr ⟨rfl, by rw [h]; exact (z_mem4 154 rfl rfl), hi, by rw [h]; rfl⟩
theorem flX12_211 {M : ZT} (h : M.1.cls = RX12) : z_fl M 211 TX12 23 := by
  unfold z_fl
  rw [h]
  exact Or.inl (z_mem4 155 rfl rfl)
theorem plX12_211 {M : ZT} (h : M.1.cls = RX12) : z_pl M 211 TX12 23 := Or.inl ⟨rfl, flX12_211 h⟩
theorem flX12_60 {M : ZT} (h : M.1.cls = RX12) : z_fl M 60 TX12 24 := by
  unfold z_fl
  rw [h]
  exact Or.inl (z_mem4 156 rfl rfl)
theorem plX12_60 {M : ZT} (h : M.1.cls = RX12) (hi : M.1.name = "<init>") : z_pl M 60 TX12 24 := Or.inr ⟨rfl, by rw [h]; exact (z_mem4 156 rfl rfl), hi, by rw [h]; rfl⟩
theorem flX12_63 {M : ZT} (h : M.1.cls = RX12) : z_fl M 63 TX12 25 := by
  unfold z_fl
  rw [h]
  exact Or.inl (z_mem4 157 rfl rfl)
theorem plX12_63 {M : ZT} (h : M.1.cls = RX12) (hi : M.1.name = "<init>") : z_pl M 63 TX12 25 := Or.inr ⟨rfl, by rw [h]; exact (z_mem4 157 rfl rfl), hi, by rw [h]; rfl⟩
theorem flX12_214 {M : ZT} (h : M.1.cls = RX12) : z_fl M 214 TX12 26 := by
  unfold z_fl
  rw [h]
  exact Or.inl (z_mem4 158 rfl rfl)
theorem plX12_214 {M : ZT} (h : M.1.cls = RX12) : z_pl M 214 TX12 26 := Or.inl ⟨rfl, flX12_214 h⟩
theorem flX12_66 {M : ZT} (h : M.1.cls = RX12) : z_fl M 66 TX12 27 := by
  unfold z_fl
  rw [h]
  exact Or.inl (z_mem4 159 rfl rfl)
theorem plX12_66 {M : ZT} (h : M.1.cls = RX12) (hi : M.1.name = "<init>") : z_pl M 66 TX12 27 := Or.inr ⟨rfl, by rw [h]; exact (z_mem4 159 rfl rfl), hi, by rw [h]; rfl⟩
theorem flX12_69 {M : ZT} (h : M.1.cls = RX12) : z_fl M 69 TX12 28 := by
  unfold z_fl
  rw [h]
  exact Or.inl (z_mem4 160 rfl rfl)
theorem plX12_69 {M : ZT} (h : M.1.cls = RX12) (hi : M.1.name = "<init>") : z_pl M 69 TX12 28 := Or.inr ⟨rfl, by rw [h]; exact (z_mem4 160 rfl rfl), hi, by rw [h]; rfl⟩
theorem flX12_275 {M : ZT} (h : M.1.cls = RX12) : z_fl M 275 TX12 29 := by
  unfold z_fl
  rw [h]
  exact Or.inl (z_mem4 161 rfl rfl)
theorem plX12_275 {M : ZT} (h : M.1.cls = RX12) : z_pl M 275 TX12 29 := Or.inl ⟨rfl, flX12_275 h⟩
theorem ac_boolean : Cond.arrayClass .boolean ∈ z_us := z_mem4 223 rfl rfl
theorem mlL_17 {M : ZT} (h : M.1.cls = RL) : Cond.methodLink M.1.cls 17 yX12_row ∈ z_us ∨ ∃ host, Cond.methodLinkNest M.1.cls 17 yX12_row host ∈ z_us := by
  rw [h]
  exact Or.inl (z_mem4 224 rfl rfl)
theorem mlX12_141 {M : ZT} (h : M.1.cls = RX12) : Cond.methodLink M.1.cls 141 yX12_isSlot ∈ z_us ∨ ∃ host, Cond.methodLinkNest M.1.cls 141 yX12_isSlot host ∈ z_us := by
  rw [h]
  exact Or.inl (z_mem4 228 rfl rfl)
theorem mlL_22 {M : ZT} (h : M.1.cls = RL) : Cond.methodLink M.1.cls 22 yX12_tear ∈ z_us ∨ ∃ host, Cond.methodLinkNest M.1.cls 22 yX12_tear host ∈ z_us := by
  rw [h]
  exact Or.inl (z_mem4 231 rfl rfl)
theorem mlL_29 {M : ZT} (h : M.1.cls = RL) : Cond.methodLink M.1.cls 29 yX12_write ∈ z_us ∨ ∃ host, Cond.methodLinkNest M.1.cls 29 yX12_write host ∈ z_us := by
  rw [h]
  exact Or.inl (z_mem4 235 rfl rfl)
theorem mlL_34 {M : ZT} (h : M.1.cls = RL) : Cond.methodLink M.1.cls 34 yX12_seen ∈ z_us ∨ ∃ host, Cond.methodLinkNest M.1.cls 34 yX12_seen host ∈ z_us := by
  rw [h]
  exact Or.inl (z_mem4 239 rfl rfl)
theorem ctX12_170 : Cond.constantLong RX12 170 (8) ∈ z_us := z_mem5 3 rfl rfl
theorem mlX12_172 {M : ZT} (h : M.1.cls = RX12) : Cond.methodLink M.1.cls 172 yX12_isIn ∈ z_us ∨ ∃ host, Cond.methodLinkNest M.1.cls 172 yX12_isIn host ∈ z_us := by
  rw [h]
  exact Or.inl (z_mem5 4 rfl rfl)
theorem ctX12_176 : Cond.constantLong RX12 176 (-20) ∈ z_us := z_mem5 7 rfl rfl
theorem ctX12_178 : Cond.constantLong RX12 178 (20) ∈ z_us := z_mem5 8 rfl rfl
theorem ctX12_180 : Cond.constantLong RX12 180 (-1000) ∈ z_us := z_mem5 9 rfl rfl
theorem ctX12_182 : Cond.constantLong RX12 182 (1000) ∈ z_us := z_mem5 10 rfl rfl
theorem ctX12_184 : Cond.constantLong RX12 184 (100) ∈ z_us := z_mem5 11 rfl rfl
theorem mlL_39 {M : ZT} (h : M.1.cls = RL) : Cond.methodLink M.1.cls 39 yX12_see ∈ z_us ∨ ∃ host, Cond.methodLinkNest M.1.cls 39 yX12_see host ∈ z_us := by
  rw [h]
  exact Or.inl (z_mem5 12 rfl rfl)
theorem mlL_43 {M : ZT} (h : M.1.cls = RL) : Cond.methodLink M.1.cls 43 yX12_drop ∈ z_us ∨ ∃ host, Cond.methodLinkNest M.1.cls 43 yX12_drop host ∈ z_us := by
  rw [h]
  exact Or.inl (z_mem5 16 rfl rfl)
theorem mlX12_190 {M : ZT} (h : M.1.cls = RX12) : Cond.methodLink M.1.cls 190 yX12_isSeen ∈ z_us ∨ ∃ host, Cond.methodLinkNest M.1.cls 190 yX12_isSeen host ∈ z_us := by
  rw [h]
  exact Or.inl (z_mem5 20 rfl rfl)
theorem mlL_47 {M : ZT} (h : M.1.cls = RL) : Cond.methodLink M.1.cls 47 yX12_straight ∈ z_us ∨ ∃ host, Cond.methodLinkNest M.1.cls 47 yX12_straight host ∈ z_us := by
  rw [h]
  exact Or.inl (z_mem5 24 rfl rfl)
theorem mlL_52 {M : ZT} (h : M.1.cls = RL) : Cond.methodLink M.1.cls 52 yX12_capped ∈ z_us ∨ ∃ host, Cond.methodLinkNest M.1.cls 52 yX12_capped host ∈ z_us := by
  rw [h]
  exact Or.inl (z_mem5 28 rfl rfl)
theorem mlL_56 {M : ZT} (h : M.1.cls = RL) : Cond.methodLink M.1.cls 56 yX12_table ∈ z_us ∨ ∃ host, Cond.methodLinkNest M.1.cls 56 yX12_table host ∈ z_us := by
  rw [h]
  exact Or.inl (z_mem5 32 rfl rfl)
theorem ctX12_196 : Cond.constantLong RX12 196 (40) ∈ z_us := z_mem5 36 rfl rfl
theorem ctX12_198 : Cond.constantLong RX12 198 (8000) ∈ z_us := z_mem5 37 rfl rfl
theorem mlL_60 {M : ZT} (h : M.1.cls = RL) : Cond.methodLink M.1.cls 60 yX12_sum ∈ z_us ∨ ∃ host, Cond.methodLinkNest M.1.cls 60 yX12_sum host ∈ z_us := by
  rw [h]
  exact Or.inl (z_mem5 38 rfl rfl)
theorem mlX12_200 {M : ZT} (h : M.1.cls = RX12) : Cond.methodLink M.1.cls 200 yX12_isLaw ∈ z_us ∨ ∃ host, Cond.methodLinkNest M.1.cls 200 yX12_isLaw host ∈ z_us := by
  rw [h]
  exact Or.inl (z_mem5 42 rfl rfl)
theorem mlL_64 {M : ZT} (h : M.1.cls = RL) : Cond.methodLink M.1.cls 64 yX12_unlike ∈ z_us ∨ ∃ host, Cond.methodLinkNest M.1.cls 64 yX12_unlike host ∈ z_us := by
  rw [h]
  exact Or.inl (z_mem5 46 rfl rfl)
theorem mlL_68 {M : ZT} (h : M.1.cls = RL) : Cond.methodLink M.1.cls 68 yX12_use ∈ z_us ∨ ∃ host, Cond.methodLinkNest M.1.cls 68 yX12_use host ∈ z_us := by
  rw [h]
  exact Or.inl (z_mem5 50 rfl rfl)
theorem mlL_72 {M : ZT} (h : M.1.cls = RL) : Cond.methodLink M.1.cls 72 yX12_nearest ∈ z_us ∨ ∃ host, Cond.methodLinkNest M.1.cls 72 yX12_nearest host ∈ z_us := by
  rw [h]
  exact Or.inl (z_mem5 54 rfl rfl)
theorem mlL_76 {M : ZT} (h : M.1.cls = RL) : Cond.methodLink M.1.cls 76 yX12_ask ∈ z_us ∨ ∃ host, Cond.methodLinkNest M.1.cls 76 yX12_ask host ∈ z_us := by
  rw [h]
  exact Or.inl (z_mem5 58 rfl rfl)
theorem mlX12_248 {M : ZT} (h : M.1.cls = RX12) : Cond.methodLink M.1.cls 248 yX12_isAnswered ∈ z_us ∨ ∃ host, Cond.methodLinkNest M.1.cls 248 yX12_isAnswered host ∈ z_us := by
  rw [h]
  exact Or.inl (z_mem5 62 rfl rfl)
theorem mlX12_233 {M : ZT} (h : M.1.cls = RX12) : Cond.methodLink M.1.cls 233 yX12_choose ∈ z_us ∨ ∃ host, Cond.methodLinkNest M.1.cls 233 yX12_choose host ∈ z_us := by
  rw [h]
  exact Or.inl (z_mem5 66 rfl rfl)
theorem mlX12_217 {M : ZT} (h : M.1.cls = RX12) : Cond.methodLink M.1.cls 217 yX12_ways ∈ z_us ∨ ∃ host, Cond.methodLinkNest M.1.cls 217 yX12_ways host ∈ z_us := by
  rw [h]
  exact Or.inl (z_mem5 70 rfl rfl)
theorem mlX12_207 {M : ZT} (h : M.1.cls = RX12) : Cond.methodLink M.1.cls 207 yX12_way ∈ z_us ∨ ∃ host, Cond.methodLinkNest M.1.cls 207 yX12_way host ∈ z_us := by
  rw [h]
  exact Or.inl (z_mem5 74 rfl rfl)
theorem mlX12_203 {M : ZT} (h : M.1.cls = RX12) : Cond.methodLink M.1.cls 203 yX12_size ∈ z_us ∨ ∃ host, Cond.methodLinkNest M.1.cls 203 yX12_size host ∈ z_us := by
  rw [h]
  exact Or.inl (z_mem5 77 rfl rfl)
theorem mlX12_236 {M : ZT} (h : M.1.cls = RX12) : Cond.methodLink M.1.cls 236 yX12_weigh ∈ z_us ∨ ∃ host, Cond.methodLinkNest M.1.cls 236 yX12_weigh host ∈ z_us := by
  rw [h]
  exact Or.inl (z_mem5 80 rfl rfl)
theorem mlX12_153 {M : ZT} (h : M.1.cls = RX12) : Cond.methodLink M.1.cls 153 yX12_cell ∈ z_us ∨ ∃ host, Cond.methodLinkNest M.1.cls 153 yX12_cell host ∈ z_us := by
  rw [h]
  exact Or.inl (z_mem5 84 rfl rfl)
theorem mlX12_220 {M : ZT} (h : M.1.cls = RX12) : Cond.methodLink M.1.cls 220 yX12_between ∈ z_us ∨ ∃ host, Cond.methodLinkNest M.1.cls 220 yX12_between host ∈ z_us := by
  rw [h]
  exact Or.inl (z_mem5 88 rfl rfl)
theorem mlX12_224 {M : ZT} (h : M.1.cls = RX12) : Cond.methodLink M.1.cls 224 yX12_toPlaces ∈ z_us ∨ ∃ host, Cond.methodLinkNest M.1.cls 224 yX12_toPlaces host ∈ z_us := by
  rw [h]
  exact Or.inl (z_mem5 92 rfl rfl)
theorem mlX12_227 {M : ZT} (h : M.1.cls = RX12) : Cond.methodLink M.1.cls 227 yX12_clear ∈ z_us ∨ ∃ host, Cond.methodLinkNest M.1.cls 227 yX12_clear host ∈ z_us := by
  rw [h]
  exact Or.inl (z_mem5 96 rfl rfl)
theorem mlX12_92 {M : ZT} (h : M.1.cls = RX12) : Cond.methodLink M.1.cls 92 yX12_isZero ∈ z_us ∨ ∃ host, Cond.methodLinkNest M.1.cls 92 yX12_isZero host ∈ z_us := by
  rw [h]
  exact Or.inl (z_mem5 100 rfl rfl)
theorem mlX12_118 {M : ZT} (h : M.1.cls = RX12) : Cond.methodLink M.1.cls 118 yX12_copy ∈ z_us ∨ ∃ host, Cond.methodLinkNest M.1.cls 118 yX12_copy host ∈ z_us := by
  rw [h]
  exact Or.inl (z_mem5 104 rfl rfl)
theorem mlX12_160 {M : ZT} (h : M.1.cls = RX12) : Cond.methodLink M.1.cls 160 yX12_clears ∈ z_us ∨ ∃ host, Cond.methodLinkNest M.1.cls 160 yX12_clears host ∈ z_us := by
  rw [h]
  exact Or.inl (z_mem5 108 rfl rfl)
theorem mlX12_163 {M : ZT} (h : M.1.cls = RX12) : Cond.methodLink M.1.cls 163 yX12_times ∈ z_us ∨ ∃ host, Cond.methodLinkNest M.1.cls 163 yX12_times host ∈ z_us := by
  rw [h]
  exact Or.inl (z_mem5 112 rfl rfl)
theorem mlX12_96 {M : ZT} (h : M.1.cls = RX12) : Cond.methodLink M.1.cls 96 yX12_isBelow ∈ z_us ∨ ∃ host, Cond.methodLinkNest M.1.cls 96 yX12_isBelow host ∈ z_us := by
  rw [h]
  exact Or.inl (z_mem5 116 rfl rfl)
theorem mlX12_102 {M : ZT} (h : M.1.cls = RX12) : Cond.methodLink M.1.cls 102 yX12_bare ∈ z_us ∨ ∃ host, Cond.methodLinkNest M.1.cls 102 yX12_bare host ∈ z_us := by
  rw [h]
  exact Or.inl (z_mem5 120 rfl rfl)
theorem mlX12_99 {M : ZT} (h : M.1.cls = RX12) : Cond.methodLink M.1.cls 99 yX12_turn ∈ z_us ∨ ∃ host, Cond.methodLinkNest M.1.cls 99 yX12_turn host ∈ z_us := by
  rw [h]
  exact Or.inl (z_mem5 124 rfl rfl)
theorem mlX12_106 {M : ZT} (h : M.1.cls = RX12) : Cond.methodLink M.1.cls 106 yX12_length ∈ z_us ∨ ∃ host, Cond.methodLinkNest M.1.cls 106 yX12_length host ∈ z_us := by
  rw [h]
  exact Or.inl (z_mem5 128 rfl rfl)
theorem ctX12_132 : Cond.constantLong RX12 132 (-1) ∈ z_us := z_mem5 131 rfl rfl
theorem mlX12_134 {M : ZT} (h : M.1.cls = RX12) : Cond.methodLink M.1.cls 134 yX12_more ∈ z_us ∨ ∃ host, Cond.methodLinkNest M.1.cls 134 yX12_more host ∈ z_us := by
  rw [h]
  exact Or.inl (z_mem5 132 rfl rfl)
theorem mlX12_138 {M : ZT} (h : M.1.cls = RX12) : Cond.methodLink M.1.cls 138 yX12_parts ∈ z_us ∨ ∃ host, Cond.methodLinkNest M.1.cls 138 yX12_parts host ∈ z_us := by
  rw [h]
  exact Or.inl (z_mem5 136 rfl rfl)
theorem ctX12_110 : Cond.constantLong RX12 110 (999999999) ∈ z_us := z_mem5 140 rfl rfl
theorem ctX12_112 : Cond.constantLong RX12 112 (2) ∈ z_us := z_mem5 141 rfl rfl
theorem mlX12_114 {M : ZT} (h : M.1.cls = RX12) : Cond.methodLink M.1.cls 114 yX12_goesInto ∈ z_us ∨ ∃ host, Cond.methodLinkNest M.1.cls 114 yX12_goesInto host ∈ z_us := by
  rw [h]
  exact Or.inl (z_mem5 142 rfl rfl)
theorem mlX12_239 {M : ZT} (h : M.1.cls = RX12) : Cond.methodLink M.1.cls 239 yX12_top ∈ z_us ∨ ∃ host, Cond.methodLinkNest M.1.cls 239 yX12_top host ∈ z_us := by
  rw [h]
  exact Or.inl (z_mem5 146 rfl rfl)
theorem mlX12_242 {M : ZT} (h : M.1.cls = RX12) : Cond.methodLink M.1.cls 242 yX12_guess ∈ z_us ∨ ∃ host, Cond.methodLinkNest M.1.cls 242 yX12_guess host ∈ z_us := by
  rw [h]
  exact Or.inl (z_mem5 150 rfl rfl)
theorem mlX12_230 {M : ZT} (h : M.1.cls = RX12) : Cond.methodLink M.1.cls 230 yX12_told ∈ z_us ∨ ∃ host, Cond.methodLinkNest M.1.cls 230 yX12_told host ∈ z_us := by
  rw [h]
  exact Or.inl (z_mem5 154 rfl rfl)
theorem mlX12_245 {M : ZT} (h : M.1.cls = RX12) : Cond.methodLink M.1.cls 245 yX12_bottom ∈ z_us ∨ ∃ host, Cond.methodLinkNest M.1.cls 245 yX12_bottom host ∈ z_us := by
  rw [h]
  exact Or.inl (z_mem5 158 rfl rfl)
theorem mlL_80 {M : ZT} (h : M.1.cls = RL) : Cond.methodLink M.1.cls 80 yX12_mean ∈ z_us ∨ ∃ host, Cond.methodLinkNest M.1.cls 80 yX12_mean host ∈ z_us := by
  rw [h]
  exact Or.inl (z_mem5 162 rfl rfl)
theorem ctX12_252 : Cond.constantLong RX12 252 (6) ∈ z_us := z_mem5 166 rfl rfl
theorem mlL_84 {M : ZT} (h : M.1.cls = RL) : Cond.methodLink M.1.cls 84 yX12_answer ∈ z_us ∨ ∃ host, Cond.methodLinkNest M.1.cls 84 yX12_answer host ∈ z_us := by
  rw [h]
  exact Or.inl (z_mem5 167 rfl rfl)
theorem mlX12_254 {M : ZT} (h : M.1.cls = RX12) : Cond.methodLink M.1.cls 254 yX12_result ∈ z_us ∨ ∃ host, Cond.methodLinkNest M.1.cls 254 yX12_result host ∈ z_us := by
  rw [h]
  exact Or.inl (z_mem5 171 rfl rfl)
theorem mlX12_122 {M : ZT} (h : M.1.cls = RX12) : Cond.methodLink M.1.cls 122 yX12_isEven ∈ z_us ∨ ∃ host, Cond.methodLinkNest M.1.cls 122 yX12_isEven host ∈ z_us := by
  rw [h]
  exact Or.inl (z_mem5 175 rfl rfl)
theorem mlX12_125 {M : ZT} (h : M.1.cls = RX12) : Cond.methodLink M.1.cls 125 yX12_half ∈ z_us ∨ ∃ host, Cond.methodLinkNest M.1.cls 125 yX12_half host ∈ z_us := by
  rw [h]
  exact Or.inl (z_mem5 179 rfl rfl)
theorem mlX12_128 {M : ZT} (h : M.1.cls = RX12) : Cond.methodLink M.1.cls 128 yX12_isLess ∈ z_us ∨ ∃ host, Cond.methodLinkNest M.1.cls 128 yX12_isLess host ∈ z_us := by
  rw [h]
  exact Or.inl (z_mem5 183 rfl rfl)
theorem mlL_88 {M : ZT} (h : M.1.cls = RL) : Cond.methodLink M.1.cls 88 yX12_leftOut ∈ z_us ∨ ∃ host, Cond.methodLinkNest M.1.cls 88 yX12_leftOut host ∈ z_us := by
  rw [h]
  exact Or.inl (z_mem5 187 rfl rfl)
theorem mlX12_257 {M : ZT} (h : M.1.cls = RX12) : Cond.methodLink M.1.cls 257 yX12_isOff ∈ z_us ∨ ∃ host, Cond.methodLinkNest M.1.cls 257 yX12_isOff host ∈ z_us := by
  rw [h]
  exact Or.inl (z_mem5 191 rfl rfl)
theorem mlL_93 {M : ZT} (h : M.1.cls = RL) : Cond.methodLink M.1.cls 93 yX12_worst_ ∈ z_us ∨ ∃ host, Cond.methodLinkNest M.1.cls 93 yX12_worst_ host ∈ z_us := by
  rw [h]
  exact Or.inl (z_mem5 195 rfl rfl)
theorem mlX12_266 {M : ZT} (h : M.1.cls = RX12) : Cond.methodLink M.1.cls 266 yX12_worst ∈ z_us ∨ ∃ host, Cond.methodLinkNest M.1.cls 266 yX12_worst host ∈ z_us := by
  rw [h]
  exact Or.inl (z_mem5 199 rfl rfl)
theorem mlX12_260 {M : ZT} (h : M.1.cls = RX12) : Cond.methodLink M.1.cls 260 yX12_bare_ ∈ z_us ∨ ∃ host, Cond.methodLinkNest M.1.cls 260 yX12_bare_ host ∈ z_us := by
  rw [h]
  exact Or.inl (z_mem5 203 rfl rfl)
theorem mlX12_262 {M : ZT} (h : M.1.cls = RX12) : Cond.methodLink M.1.cls 262 yX12_isAbove ∈ z_us ∨ ∃ host, Cond.methodLinkNest M.1.cls 262 yX12_isAbove host ∈ z_us := by
  rw [h]
  exact Or.inl (z_mem5 207 rfl rfl)
theorem mlL_97 {M : ZT} (h : M.1.cls = RL) : Cond.methodLink M.1.cls 97 yX12_best ∈ z_us ∨ ∃ host, Cond.methodLinkNest M.1.cls 97 yX12_best host ∈ z_us := by
  rw [h]
  exact Or.inl (z_mem5 211 rfl rfl)
theorem mlL_101 {M : ZT} (h : M.1.cls = RL) : Cond.methodLink M.1.cls 101 yX12_allowed ∈ z_us ∨ ∃ host, Cond.methodLinkNest M.1.cls 101 yX12_allowed host ∈ z_us := by
  rw [h]
  exact Or.inl (z_mem5 215 rfl rfl)
theorem mlX12_272 {M : ZT} (h : M.1.cls = RX12) : Cond.methodLink M.1.cls 272 yX12_minor ∈ z_us ∨ ∃ host, Cond.methodLinkNest M.1.cls 272 yX12_minor host ∈ z_us := by
  rw [h]
  exact Or.inl (z_mem5 219 rfl rfl)
theorem mlX12_269 {M : ZT} (h : M.1.cls = RX12) : Cond.methodLink M.1.cls 269 yX12_sign ∈ z_us ∨ ∃ host, Cond.methodLinkNest M.1.cls 269 yX12_sign host ∈ z_us := by
  rw [h]
  exact Or.inl (z_mem5 223 rfl rfl)
theorem mlL_105 {M : ZT} (h : M.1.cls = RL) : Cond.methodLink M.1.cls 105 yX12_pairs ∈ z_us ∨ ∃ host, Cond.methodLinkNest M.1.cls 105 yX12_pairs host ∈ z_us := by
  rw [h]
  exact Or.inl (z_mem5 227 rfl rfl)
theorem mlX12_279 {M : ZT} (h : M.1.cls = RX12) : Cond.methodLink M.1.cls 279 yX12_band0 ∈ z_us ∨ ∃ host, Cond.methodLinkNest M.1.cls 279 yX12_band0 host ∈ z_us := by
  rw [h]
  exact Or.inl (z_mem5 231 rfl rfl)
theorem mlL_110 {M : ZT} (h : M.1.cls = RL) : Cond.methodLink M.1.cls 110 yX12_band ∈ z_us ∨ ∃ host, Cond.methodLinkNest M.1.cls 110 yX12_band host ∈ z_us := by
  rw [h]
  exact Or.inl (z_mem5 235 rfl rfl)
theorem mlL_114 {M : ZT} (h : M.1.cls = RL) : Cond.methodLink M.1.cls 114 yX12_look ∈ z_us ∨ ∃ host, Cond.methodLinkNest M.1.cls 114 yX12_look host ∈ z_us := by
  rw [h]
  exact Or.inl (z_mem5 239 rfl rfl)
theorem mlX12_282 {M : ZT} (h : M.1.cls = RX12) : Cond.methodLink M.1.cls 282 yX12_manyParts ∈ z_us ∨ ∃ host, Cond.methodLinkNest M.1.cls 282 yX12_manyParts host ∈ z_us := by
  rw [h]
  exact Or.inl (z_mem6 3 rfl rfl)
theorem mlL_119 {M : ZT} (h : M.1.cls = RL) : Cond.methodLink M.1.cls 119 yX12_part ∈ z_us ∨ ∃ host, Cond.methodLinkNest M.1.cls 119 yX12_part host ∈ z_us := by
  rw [h]
  exact Or.inl (z_mem6 7 rfl rfl)
theorem mlL_123 {M : ZT} (h : M.1.cls = RL) : Cond.methodLink M.1.cls 123 yX12_told_ ∈ z_us ∨ ∃ host, Cond.methodLinkNest M.1.cls 123 yX12_told_ host ∈ z_us := by
  rw [h]
  exact Or.inl (z_mem6 11 rfl rfl)
theorem mlL_127 {M : ZT} (h : M.1.cls = RL) : Cond.methodLink M.1.cls 127 yX12_count ∈ z_us ∨ ∃ host, Cond.methodLinkNest M.1.cls 127 yX12_count host ∈ z_us := by
  rw [h]
  exact Or.inl (z_mem6 15 rfl rfl)
theorem ctL_23 : Cond.constantLong RL 23 (4294967295) ∈ z_us := z_mem6 19 rfl rfl
theorem ob_i : Cond.instanceMethod objectInit ∈ z_us := z_mem1 22 rfl rfl
theorem ob_c : Cond.code objectInit ⟨#[0xb1]⟩ 1 none ∈ z_us := z_mem1 23 rfl rfl
theorem df_0 : ∀ i, i < 7 → ∀ B : Nat, defaultValue (tyX0 i) = z_rv B 0 (z_ft 0 i, 0) := fun i hi B => match i, hi with
  | 0, _ => rfl
  | 1, _ => rfl
  | 2, _ => rfl
  | 3, _ => rfl
  | 4, _ => rfl
  | 5, _ => rfl
  | 6, _ => rfl
  | k + 7, h => absurd h (by omega)
theorem df_1 : ∀ i, i < 4 → ∀ B : Nat, defaultValue (tyX1 i) = z_rv B 0 (z_ft 1 i, 0) := fun i hi B => match i, hi with
  | 0, _ => rfl
  | 1, _ => rfl
  | 2, _ => rfl
  | 3, _ => rfl
  | k + 4, h => absurd h (by omega)
theorem df_2 : ∀ i, i < 6 → ∀ B : Nat, defaultValue (tyX2 i) = z_rv B 0 (z_ft 2 i, 0) := fun i hi B => match i, hi with
  | 0, _ => rfl
  | 1, _ => rfl
  | 2, _ => rfl
  | 3, _ => rfl
  | 4, _ => rfl
  | 5, _ => rfl
  | k + 6, h => absurd h (by omega)
theorem df_3 : ∀ i, i < 2 → ∀ B : Nat, defaultValue (tyX3 i) = z_rv B 0 (z_ft 3 i, 0) := fun i hi B => match i, hi with
  | 0, _ => rfl
  | 1, _ => rfl
  | k + 2, h => absurd h (by omega)
theorem df_4 : ∀ i, i < 6 → ∀ B : Nat, defaultValue (tyX4 i) = z_rv B 0 (z_ft 4 i, 0) := fun i hi B => match i, hi with
  | 0, _ => rfl
  | 1, _ => rfl
  | 2, _ => rfl
  | 3, _ => rfl
  | 4, _ => rfl
  | 5, _ => rfl
  | k + 6, h => absurd h (by omega)
theorem df_5 : ∀ i, i < 2 → ∀ B : Nat, defaultValue (tyX5 i) = z_rv B 0 (z_ft 5 i, 0) := fun i hi B => match i, hi with
  | 0, _ => rfl
  | 1, _ => rfl
  | k + 2, h => absurd h (by omega)
theorem df_6 : ∀ i, i < 3 → ∀ B : Nat, defaultValue (tyX6 i) = z_rv B 0 (z_ft 6 i, 0) := fun i hi B => match i, hi with
  | 0, _ => rfl
  | 1, _ => rfl
  | 2, _ => rfl
  | k + 3, h => absurd h (by omega)
theorem df_7 : ∀ i, i < 3 → ∀ B : Nat, defaultValue (tyX7 i) = z_rv B 0 (z_ft 7 i, 0) := fun i hi B => match i, hi with
  | 0, _ => rfl
  | 1, _ => rfl
  | 2, _ => rfl
  | k + 3, h => absurd h (by omega)
theorem df_8 : ∀ i, i < 9 → ∀ B : Nat, defaultValue (tyX8 i) = z_rv B 0 (z_ft 8 i, 0) := fun i hi B => match i, hi with
  | 0, _ => rfl
  | 1, _ => rfl
  | 2, _ => rfl
  | 3, _ => rfl
  | 4, _ => rfl
  | 5, _ => rfl
  | 6, _ => rfl
  | 7, _ => rfl
  | 8, _ => rfl
  | k + 9, h => absurd h (by omega)
theorem df_9 : ∀ i, i < 3 → ∀ B : Nat, defaultValue (tyX9 i) = z_rv B 0 (z_ft 9 i, 0) := fun i hi B => match i, hi with
  | 0, _ => rfl
  | 1, _ => rfl
  | 2, _ => rfl
  | k + 3, h => absurd h (by omega)
theorem df_10 : ∀ i, i < 4 → ∀ B : Nat, defaultValue (tyX10 i) = z_rv B 0 (z_ft 10 i, 0) := fun i hi B => match i, hi with
  | 0, _ => rfl
  | 1, _ => rfl
  | 2, _ => rfl
  | 3, _ => rfl
  | k + 4, h => absurd h (by omega)
theorem df_11 : ∀ i, i < 15 → ∀ B : Nat, defaultValue (tyX11 i) = z_rv B 0 (z_ft 11 i, 0) := fun i hi B => match i, hi with
  | 0, _ => rfl
  | 1, _ => rfl
  | 2, _ => rfl
  | 3, _ => rfl
  | 4, _ => rfl
  | 5, _ => rfl
  | 6, _ => rfl
  | 7, _ => rfl
  | 8, _ => rfl
  | 9, _ => rfl
  | 10, _ => rfl
  | 11, _ => rfl
  | 12, _ => rfl
  | 13, _ => rfl
  | 14, _ => rfl
  | k + 15, h => absurd h (by omega)
theorem df_12 : ∀ i, i < 30 → ∀ B : Nat, defaultValue (tyX12 i) = z_rv B 0 (z_ft 12 i, 0) := fun i hi B => match i, hi with
  | 0, _ => rfl
  | 1, _ => rfl
  | 2, _ => rfl
  | 3, _ => rfl
  | 4, _ => rfl
  | 5, _ => rfl
  | 6, _ => rfl
  | 7, _ => rfl
  | 8, _ => rfl
  | 9, _ => rfl
  | 10, _ => rfl
  | 11, _ => rfl
  | 12, _ => rfl
  | 13, _ => rfl
  | 14, _ => rfl
  | 15, _ => rfl
  | 16, _ => rfl
  | 17, _ => rfl
  | 18, _ => rfl
  | 19, _ => rfl
  | 20, _ => rfl
  | 21, _ => rfl
  | 22, _ => rfl
  | 23, _ => rfl
  | 24, _ => rfl
  | 25, _ => rfl
  | 26, _ => rfl
  | 27, _ => rfl
  | 28, _ => rfl
  | 29, _ => rfl
  | k + 30, h => absurd h (by omega)
