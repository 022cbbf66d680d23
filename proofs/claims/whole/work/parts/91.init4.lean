theorem st_b {σp σn : ZM} {p k v : Int} (hp : 1 < p) (o : ∀ c : Int, c < p → σn c = z_new (z_up σp 1 k v) p c) : (∀ c : Int, c < p → c ≠ 1 → σn c = σp c) ∧ σn 1 = fu (σp 1) k v := by
  refine ⟨fun c h1 h2 => ?_, ?_⟩
  · rw [o c h1, z_new_n _ (by omega), z_up_far _ _ _ h2]
  · rw [o 1 hp, z_new_n _ (by omega), z_up_row]
/-- the class as its constructor leaves it -/
def BC (σ : ZM) : Prop := σ 1 = fu (fu (fu (fu (fu (fu (fu (fu (fu (fu (fu (fu (fu (fu (fu (fun _ => 0) 0 2) 1 6) 2 8) 3 11) 4 16) 5 141) 6 169) 7 179) 8 184) 9 189) 10 194) 11 199) 12 205) 13 (-1)) 14 8 ∧ ((σ 2 0 = 3 ∧ σ 2 1 = 4 ∧ σ 2 2 = 5) ∧ ∀ k : Int, 0 ≤ k → k < 8 → σ 5 k = -1) ∧ (σ 6 0 = 7 ∧ σ 6 1 = 0) ∧ (σ 8 0 = 9 ∧ σ 8 1 = 10 ∧ σ 8 2 = 0) ∧ (σ 11 0 = 12 ∧ σ 11 1 = 13 ∧ σ 11 2 = 14 ∧ σ 11 3 = 15) ∧ ((σ 16 0 = 17 ∧ σ 16 1 = 18 ∧ σ 16 2 = 20 ∧ σ 16 3 = 22 ∧ σ 16 4 = 24 ∧ σ 16 5 = 26) ∧ (σ 26 0 = 27 ∧ σ 26 1 = 28) ∧ (∀ a : Int, z_l a = (9, 3) → 16 ≤ a → a ≤ 139 → P9 σ a) ∧ ∀ t : Int, 0 ≤ t → t < 56 → σ 17 t = 29 + 2 * t) ∧ ((σ 141 0 = 142 ∧ σ 141 1 = 143 ∧ σ 141 2 = 145 ∧ σ 141 3 = 147 ∧ σ 141 4 = 149 ∧ σ 141 5 = 151 ∧ σ 141 6 = 0) ∧ (∀ a : Int, z_l a = (9, 3) → 141 ≤ a → a ≤ 167 → P9 σ a) ∧ ∀ t : Int, 0 ≤ t → t < 8 → σ 142 t = 153 + 2 * t) ∧ ((σ 169 0 = 170 ∧ σ 169 1 = 173 ∧ σ 169 2 = 175 ∧ σ 169 3 = 177) ∧ (σ 170 0 = 171 ∧ σ 170 1 = 172) ∧ ∀ a : Int, z_l a = (9, 3) → 169 ≤ a → a ≤ 178 → P9 σ a) ∧ P3 σ 179 ∧ P3 σ 184 ∧ P3 σ 189 ∧ P3 σ 194 ∧ P7 σ 199 ∧ P7 σ 205
theorem i_11 {X : ZS} {σ : ZM} {T : ZM → Prop} (hz : σ 1 = fun _ => 0) (h : ∀ σ', BC σ' → T σ') : ZC X (rX11_init 210) mX11_init [(2, 1)] 1 σ (zQv T) := by
  refine bk_X11_init (n := 1) (n1 := 210) la_1 ⟨la_2, by decide, by decide, by decide, i_8 (fun σ6 o6 a6 b6 => ⟨by decide, la_6, by decide, by decide, by decide, i_5 (z_new_s _ _) (fun σ14 o14 a14 => ⟨by decide, la_8, by decide, by decide, by decide, i_6 (n := 8) 6 rfl (by decide) la_8 (z_new_s _ _) la_9 la_10 (fun σ22 o22 a22 b22 c22 => ⟨by decide, la_11, by decide, by decide, by decide, i_2 (fun σ30 o30 a30 => ⟨by decide, la_16, by decide, by decide, by decide, i_4 (fun σ38 o38 a38 b38 c38 d38 => ⟨by decide, la_141, by decide, by decide, by decide, i_0 (z_new_s _ _) (fun σ46 o46 a46 b46 c46 => ⟨by decide, la_169, by decide, by decide, by decide, i_10 (fun σ54 o54 a54 b54 c54 => ⟨by decide, la_179, by decide, by decide, by decide, i_3 (n := 179) la_179 (fun σ62 o62 p62 => ⟨by decide, la_184, by decide, by decide, by decide, i_3 (n := 184) la_184 (fun σ70 o70 p70 => ⟨by decide, la_189, by decide, by decide, by decide, i_3 (n := 189) la_189 (fun σ78 o78 p78 => ⟨by decide, la_194, by decide, by decide, by decide, i_3 (n := 194) la_194 (fun σ86 o86 p86 => ⟨by decide, la_199, by decide, by decide, by decide, i_7 (n := 199) la_199 la_200 la_201 la_202 la_203 la_204 (fun σ94 o94 p94 => ⟨by decide, la_205, by decide, by decide, by decide, i_7 (n := 205) la_205 la_206 la_207 la_208 la_209 la_210 (fun σ102 o102 p102 => ⟨by decide, rfl, ?_⟩)⟩)⟩)⟩)⟩)⟩)⟩)⟩)⟩)⟩)⟩)⟩)⟩)⟩
  have s14 := st_b (σp := σ6) (σn := σ14) (p := 6) (k := 0) (v := 2) (by decide) o14
  have s22 := st_b (σp := σ14) (σn := σ22) (p := 8) (k := 1) (v := 6) (by decide) o22
  have s30 := st_b (σp := σ22) (σn := σ30) (p := 11) (k := 2) (v := 8) (by decide) o30
  have s38 := st_b (σp := σ30) (σn := σ38) (p := 16) (k := 3) (v := 11) (by decide) o38
  have s46 := st_b (σp := σ38) (σn := σ46) (p := 141) (k := 4) (v := 16) (by decide) o46
  have s54 := st_b (σp := σ46) (σn := σ54) (p := 169) (k := 5) (v := 141) (by decide) o54
  have s62 := st_b (σp := σ54) (σn := σ62) (p := 179) (k := 6) (v := 169) (by decide) o62
  have s70 := st_b (σp := σ62) (σn := σ70) (p := 184) (k := 7) (v := 179) (by decide) o70
  have s78 := st_b (σp := σ70) (σn := σ78) (p := 189) (k := 8) (v := 184) (by decide) o78
  have s86 := st_b (σp := σ78) (σn := σ86) (p := 194) (k := 9) (v := 189) (by decide) o86
  have s94 := st_b (σp := σ86) (σn := σ94) (p := 199) (k := 10) (v := 194) (by decide) o94
  have s102 := st_b (σp := σ94) (σn := σ102) (p := 205) (k := 11) (v := 199) (by decide) o102
  have r6 : σ6 1 = fun _ => 0 := by rw [o6 1 (by decide), z_new_n _ (by decide), hz]
  obtain ⟨F, hF⟩ : ∃ F : ZM, F = z_up (z_up (z_up σ102 1 12 205) 1 13 (-1)) 1 14 8 := ⟨_, rfl⟩
  have eF : ∀ c : Int, c ≠ 1 → F c = σ102 c := fun c hc => by rw [hF, z_up_far _ _ _ hc, z_up_far _ _ _ hc, z_up_far _ _ _ hc]
  have f94 : ∀ c : Int, c < 205 → c ≠ 1 → F c = σ94 c := fun c h1 h2 => (eF c h2).trans (s102.1 c h1 h2)
  have f86 : ∀ c : Int, c < 199 → c ≠ 1 → F c = σ86 c := fun c h1 h2 => (f94 c (by omega) h2).trans (s94.1 c h1 h2)
  have f78 : ∀ c : Int, c < 194 → c ≠ 1 → F c = σ78 c := fun c h1 h2 => (f86 c (by omega) h2).trans (s86.1 c h1 h2)
  have f70 : ∀ c : Int, c < 189 → c ≠ 1 → F c = σ70 c := fun c h1 h2 => (f78 c (by omega) h2).trans (s78.1 c h1 h2)
  have f62 : ∀ c : Int, c < 184 → c ≠ 1 → F c = σ62 c := fun c h1 h2 => (f70 c (by omega) h2).trans (s70.1 c h1 h2)
  have f54 : ∀ c : Int, c < 179 → c ≠ 1 → F c = σ54 c := fun c h1 h2 => (f62 c (by omega) h2).trans (s62.1 c h1 h2)
  have f46 : ∀ c : Int, c < 169 → c ≠ 1 → F c = σ46 c := fun c h1 h2 => (f54 c (by omega) h2).trans (s54.1 c h1 h2)
  have f38 : ∀ c : Int, c < 141 → c ≠ 1 → F c = σ38 c := fun c h1 h2 => (f46 c (by omega) h2).trans (s46.1 c h1 h2)
  have f30 : ∀ c : Int, c < 16 → c ≠ 1 → F c = σ30 c := fun c h1 h2 => (f38 c (by omega) h2).trans (s38.1 c h1 h2)
  have f22 : ∀ c : Int, c < 11 → c ≠ 1 → F c = σ22 c := fun c h1 h2 => (f30 c (by omega) h2).trans (s30.1 c h1 h2)
  have f14 : ∀ c : Int, c < 8 → c ≠ 1 → F c = σ14 c := fun c h1 h2 => (f22 c (by omega) h2).trans (s22.1 c h1 h2)
  have f6 : ∀ c : Int, c < 6 → c ≠ 1 → F c = σ6 c := fun c h1 h2 => (f14 c (by omega) h2).trans (s14.1 c h1 h2)
  have row : F 1 = fu (fu (fu (fu (fu (fu (fu (fu (fu (fu (fu (fu (fu (fu (fu (fun _ => 0) 0 2) 1 6) 2 8) 3 11) 4 16) 5 141) 6 169) 7 179) 8 184) 9 189) 10 194) 11 199) 12 205) 13 (-1)) 14 8 := by
    rw [hF, z_up_row, z_up_row, z_up_row, s102.2, s94.2, s86.2, s78.2, s70.2, s62.2, s54.2, s46.2, s38.2, s30.2, s22.2, s14.2, r6]
  have hh : T F := h F ⟨row, ⟨by rw [f6 2 (by decide) (by decide)]; exact a6, fun k k0 k1 => by rw [f6 5 (by decide) (by decide)]; exact b6 k k0 k1⟩, by rw [f14 6 (by decide) (by decide)]; exact a14, by rw [f22 8 (by decide) (by decide)]; exact ⟨a22, b22, c22⟩, by rw [f30 11 (by decide) (by decide)]; exact a30, ⟨by rw [f38 16 (by decide) (by decide)]; exact a38, by rw [f38 26 (by decide) (by decide)]; exact b38, fun a ha h1 h2 => (c38 a ha h1 h2).fr (f38 a (by omega) (by omega)) (f38 (a + 1) (by omega) (by omega)), fun t t0 t1 => by rw [f38 17 (by decide) (by decide)]; exact d38 t t0 t1⟩, ⟨by rw [f46 141 (by decide) (by decide)]; exact a46, fun a ha h1 h2 => (b46 a ha h1 h2).fr (f46 a (by omega) (by omega)) (f46 (a + 1) (by omega) (by omega)), fun t t0 t1 => by rw [f46 142 (by decide) (by decide)]; exact c46 t t0 t1⟩, ⟨by rw [f54 169 (by decide) (by decide)]; exact a54, by rw [f54 170 (by decide) (by decide)]; exact b54, fun a ha h1 h2 => (c54 a ha h1 h2).fr (f54 a (by omega) (by omega)) (f54 (a + 1) (by have := w_cases ha; omega) (by omega))⟩, p62.fr (fun c h1 h2 => f62 c (by omega) (by omega)), p70.fr (fun c h1 h2 => f70 c (by omega) (by omega)), p78.fr (fun c h1 h2 => f78 c (by omega) (by omega)), p86.fr (fun c h1 h2 => f86 c (by omega) (by omega)), p94.fr (fun c h1 h2 => f94 c (by omega) (by omega)), p102.fr (fun c h1 h2 => eF c (by omega))⟩
  rw [hF] at hh
  exact hh
