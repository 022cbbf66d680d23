/-- the grid's cells: 56 whole numbers, none twice -/
def GP (g : Int → Int) : Prop := (∀ t : Int, 0 ≤ t → t < 56 → z_l (g t) = (9, 3) ∧ 29 ≤ g t ∧ g t ≤ 139) ∧ ∀ s t : Int, 0 ≤ s → s < 56 → 0 ≤ t → t < 56 → g s = g t → s = t
theorem GP.at {g : Int → Int} (h : GP g) {i j : Nat} (hi : i < 7) (hj : j < 8) : z_l (g ((i : Int) * 8 + j)) = (9, 3) ∧ 29 ≤ g ((i : Int) * 8 + j) ∧ g ((i : Int) * 8 + j) ≤ 139 := h.1 _ (by omega) (by omega)
theorem GP.ne {g : Int → Int} (h : GP g) {i j k l : Nat} (hi : i < 7) (hj : j < 8) (hk : k < 7) (hl : l < 8) (he : g ((i : Int) * 8 + j) = g ((k : Int) * 8 + l)) : i = k ∧ j = l := by
  have := h.2 _ _ (by omega) (by omega) (by omega) (by omega) he
  omega
theorem c_cell {X : ZS} {σ : ZM} {T : Int → ZM → Prop} {i j : Nat} (hi : i < 7) (hj : j < 8) (hf : Fix σ) (h : T (σ 17 ((i : Int) * 8 + j)) σ) : ZC X (rX4_cell zN) mX4_cell [(2, 16), (0, (i : Int)), (0, (j : Int))] zN σ (zQa T) :=
  bk_X4_cell ⟨by constructor <;> omega, fun w => absurd w (by omega), fun _ => ⟨fun w => absurd w (by omega), fun _ => ⟨by constructor <;> omega, fun w => absurd w (by omega), fun _ => ⟨fun w => absurd w (by omega), fun _ => ⟨hf, by omega, by omega, h⟩⟩⟩⟩⟩
theorem pw5 : pw 5 * pw 5 + pw 5 * pw 5 < pw 12 := by unfold pw; decide +kernel
theorem gr_prod {x y B : Int} (h1 : -B < x) (h2 : x < B) (h3 : -B < y) (h4 : y < B) : -(B * B) ≤ x * y ∧ x * y ≤ B * B := z_pb (by omega) (by omega) (by omega) (by omega) (by omega)
/-- one cell, the long way -/
theorem gr_big {X : ZS} {τ : ZM} {T : ZM → Prop} {w : Int → Int} {p l a u q : Int} (hp : z_l p = (9, 3)) (hl : z_l l = (9, 3)) (ha : z_l a = (9, 3)) (hu : z_l u = (9, 3)) (np : 29 ≤ p) (nl : 29 ≤ l) (na : 29 ≤ a) (na2 : a ≤ 139) (nu : 29 ≤ u) (h : WN τ w) (bp : -pw 5 < w p ∧ w p < pw 5) (bl : -pw 5 < w l ∧ w l < pw 5) (ba : -pw 5 < w a ∧ w a < pw 5) (bu : -pw 5 < w u ∧ w u < pw 5) (hD : w 20 ≠ 0) (hq : w p * w a - w l * w u = q * w 20)
    (hT : ∀ τ' w', Ou 18 140 τ τ' → WN τ' w' → w' a = q → (∀ b : Int, b ≠ a → b ≠ 22 → b ≠ 24 → w' b = w b) → T τ') :
    (Fix τ) ∧ ZC X (rX9_multiply zN) mX9_multiply [(2, 22), (2, p), (2, a)] zN τ (zQv (fun σ10 => (Fix σ10) ∧ ZC X (rX9_multiply zN) mX9_multiply [(2, 24), (2, l), (2, u)] zN σ10 (zQv (fun σ13 => (Fix σ13) ∧ ZC X (rX9_addTimes zN) mX9_addTimes [(2, 22), (2, 24), (0, (-1))] zN σ13 (zQv (fun σ16 => (Fix σ16) ∧ ZC X (rX1_divide zN) mX1_divide [(2, 26), (2, 22), (2, 20), (2, a)] zN σ16 (zQv T))))))) := by
  refine ⟨h.1, w_mul la_22 hp ha (by omega) (by omega) h 5 5 (by decide) bp.1 bp.2 ba.1 ba.2 (fun σ10 o10 n10 => ⟨n10.1, ?_⟩)⟩
  have e1 : fu w 22 (w p * w a) l = w l := fu_n _ _ (by omega)
  have e2 : fu w 22 (w p * w a) u = w u := fu_n _ _ (by omega)
  refine w_mul la_24 hl hu (by omega) (by omega) n10 5 5 (by decide) (by rw [e1]; exact bl.1) (by rw [e1]; exact bl.2) (by rw [e2]; exact bu.1) (by rw [e2]; exact bu.2) (fun σ13 o13 n13 => ⟨n13.1, ?_⟩)
  rw [e1, e2] at n13
  have e3 : fu (fu w 22 (w p * w a)) 24 (w l * w u) 22 = w p * w a := by rw [fu_n _ _ (by decide), fu_s]
  have e4 : fu (fu w 22 (w p * w a)) 24 (w l * w u) 24 = w l * w u := fu_s _ _ _
  have b1 := gr_prod bp.1 bp.2 ba.1 ba.2
  have b2 := gr_prod bl.1 bl.2 bu.1 bu.2
  have b3 := pw5
  refine w_add la_22 la_24 (by decide) n13 (by decide) (by rw [e3, e4]; omega) (by rw [e3, e4]; omega) (fun σ16 o16 n16 => ⟨n16.1, ?_⟩)
  rw [e3, e4, show w p * w a + -1 * (w l * w u) = w p * w a - w l * w u by omega, hq] at n16
  have e5 : fu (fu (fu w 22 (w p * w a)) 24 (w l * w u)) 22 (q * w 20) 20 = w 20 := by rw [fu_n _ _ (by decide), fu_n _ _ (by decide), fu_n _ _ (by decide)]
  refine w_div (q := q) la_26 la_22 la_20 ha (by omega) n16 (by rw [e5]; exact hD) (by rw [e5, fu_s]) (fun σ19 o19 n19 => hT σ19 _ ?_ n19 (fu_s _ _ _) (fun b c1 c2 c3 => ?_))
  · exact (((Ou.ofW o10 (by decide) (by decide)).trans (Ou.ofW o13 (by decide) (by decide))).trans (Ou.ofW o16 (by decide) (by decide))).trans (Ou.ofD o19 (by decide) (by decide) (by omega) (by omega))
  · rw [fu_n _ _ c1, fu_n _ _ c2, fu_n _ _ c3, fu_n _ _ c2]
theorem gr_small {x y z u q D : Int} (hx : -1000000000 < x ∧ x < 1000000000) (hy : -1000000000 < y ∧ y < 1000000000) (hz : -1000000000 < z ∧ z < 1000000000) (hu : -1000000000 < u ∧ u < 1000000000) (hD : D ≠ 0) (he : x * y - z * u = q * D) : r64 (x * y - z * u) ∧ Int.tdiv (x * y - z * u) D = q ∧ r64 q ∧ q ≠ -9223372036854775808 := by
  have b1 := gr_prod hx.1 hx.2 hy.1 hy.2
  have b2 := gr_prod hz.1 hz.2 hu.1 hu.2
  have e1 : Int.tdiv (x * y - z * u) D = q := by rw [he]; exact Int.mul_tdiv_cancel _ hD
  have qb : -2000000000000000000 ≤ q ∧ q ≤ 2000000000000000000 := by
    rcases Int.lt_or_le D 0 with w | w
    · rcases Int.lt_or_le q 0 with w2 | w2
      · have : q * D ≥ q * (-1) := Int.mul_le_mul_of_nonpos_left (by omega) (by omega)
        omega
      · have : q * D ≤ q * (-1) := Int.mul_le_mul_of_nonneg_left (by omega) w2
        omega
    · rcases Int.lt_or_le q 0 with w2 | w2
      · have : q * D ≤ q * 1 := Int.mul_le_mul_of_nonpos_left (by omega) (by omega)
        omega
      · have : q * 1 ≤ q * D := Int.mul_le_mul_of_nonneg_left (by omega) w2
        omega
  refine ⟨?_, e1, ?_, by omega⟩ <;> constructor <;> omega
