/-! Bareiss: n rows, the columns v (at first), the columns b (units, or columns of v that were pivots), the sign e; the cells from row p, column q on, below column w -/
def BS (n : Nat) (v b : Nat → Nat → Int) (e : Int) (p q w : Nat) (M : Nat → Nat → Int) (D : Int) : Prop := (e = 1 ∨ e = -1) ∧ cram n b ∧ D ≠ 0 ∧ D = e * dt n b ∧ ∀ i j, p ≤ i → i < n → q ≤ j → j < w → M i j = e * dt n (cu b i (v j))
theorem BS.mono {n p q w p' q' w' : Nat} {v b M : Nat → Nat → Int} {e D : Int} (h : BS n v b e p q w M D) (hp : p ≤ p') (hq : q ≤ q') (hw : w' ≤ w) : BS n v b e p' q' w' M D := ⟨h.1, h.2.1, h.2.2.1, h.2.2.2.1, fun i j h1 h2 h3 h4 => h.2.2.2.2 i j (by omega) h2 (by omega) (by omega)⟩
theorem bs_init (n w : Nat) (v M : Nat → Nat → Int) (h : ∀ i j, i < n → j < w → M i j = v j i) : BS n v un 1 0 0 w M 1 := ⟨Or.inl rfl, cram_un n, by decide, by rw [dt_un]; rfl, fun i j _ h2 _ h4 => by rw [h i j h2 h4, dt_unc h2, Int.one_mul]⟩
theorem BS.ee {n p q w : Nat} {v b M : Nat → Nat → Int} {e D : Int} (h : BS n v b e p q w M D) : e * e = 1 := by rcases h.1 with w | w <;> rw [w] <;> decide
theorem BS.dne {n p q w : Nat} {v b M : Nat → Nat → Int} {e D : Int} (h : BS n v b e p q w M D) : dt n b ≠ 0 := fun w => h.2.2.1 (by rw [h.2.2.2.1, w, Int.mul_zero])
theorem bs_e {e x y z u : Int} (h : e * e = 1) : e * x * (e * y) - e * z * (e * u) = x * y - z * u := by
  have a : e * x * (e * y) = e * e * (x * y) := by grind
  have b : e * z * (e * u) = e * e * (z * u) := by grind
  rw [a, b, h, Int.one_mul, Int.one_mul]
/-- what is divided by the last pivot is a multiple of it -/
theorem BS.exact {n p q w : Nat} {v b M : Nat → Nat → Int} {e D : Int} (h : BS n v b e p q w M D) {r c i j : Nat} (hr : p ≤ r) (hrn : r < n) (hi : p ≤ i) (hin : i < n) (hir : i ≠ r) (hc : q ≤ c) (hcw : c < w) (hj : q ≤ j) (hjw : j < w) : M r c * M i j - M i c * M r j = e * dt n (cu (cu b r (v c)) i (v j)) * D := by
  have pl := pluck h.2.1 hin hrn hir (v c) (v j)
  have m := h.2.2.2.2
  rw [m r c hr hrn hc hcw, m i j hi hin hj hjw, m i c hi hin hc hcw, m r j hr hrn hj hjw, bs_e h.ee, h.2.2.2.1]
  have e2 : e * dt n (cu (cu b r (v c)) i (v j)) * (e * dt n b) = e * e * (dt n b * dt n (cu (cu b r (v c)) i (v j))) := by grind
  rw [e2, h.ee, pl]
  grind
theorem BS.step {n p q w p' q' : Nat} {v b M M' : Nat → Nat → Int} {e D : Int} (h : BS n v b e p q w M D) {r c : Nat} (hr : p ≤ r) (hrn : r < n) (hc : q ≤ c) (hcw : c < w) (hne : M r c ≠ 0) (hp : p ≤ p') (hq : q ≤ q') (h1 : ∀ i j, p' ≤ i → i < n → i ≠ r → q' ≤ j → j < w → M' i j * D = M r c * M i j - M i c * M r j) (h2 : ∀ j, p' ≤ r → q' ≤ j → j < w → M' r j = M r j) : BS n v (cu b r (v c)) e p' q' w M' (M r c) := by
  have m := h.2.2.2.2
  refine ⟨h.1, cram_step h.2.1 h.dne hrn (v c), hne, m r c hr hrn hc hcw, fun i j i0 i1 j0 j1 => ?_⟩
  by_cases hir : i = r
  · subst hir
    rw [h2 j i0 j0 j1, cu_cu, m i j hr i1 (by omega) j1]
  · apply Int.eq_of_mul_eq_mul_right h.2.2.1
    rw [h1 i j i0 i1 hir j0 j1, h.exact hr hrn (by omega) i1 hir hc hcw (by omega) j1]
/-- two rows are changed with each other -/
def rsw (M : Nat → Nat → Int) (r s : Nat) : Nat → Nat → Int := fun i => M (if i = r then s else if i = s then r else i)
theorem csw_dt {n r s : Nat} (b : Nat → Nat → Int) (hr : r < n) (hs : s < n) (hrs : r ≠ s) : dt n (rsw b r s) = -dt n b := by
  have e1 : rsw b r s = cu (cu b r (b s)) s (b r) := by
    funext c
    unfold rsw
    by_cases h1 : c = s
    · subst h1; rw [cu_self, if_neg (Ne.symm hrs), if_pos rfl]
    · rw [cu_ne _ _ h1]
      by_cases h2 : c = r
      · subst h2; rw [cu_self, if_pos rfl]
      · rw [cu_ne _ _ h2, if_neg h2, if_neg h1]
  rw [e1, dt_sw b hr hs hrs, cu_id]
  have : cu b s (b s) = b := cu_id b s
  rw [this]
theorem rsw_cu {b : Nat → Nat → Int} {r s i : Nat} (v : Nat → Int) : rsw (cu b i v) r s = cu (rsw b r s) (if i = r then s else if i = s then r else i) v := by
  funext c
  unfold rsw
  by_cases h1 : c = r
  · subst h1
    rw [if_pos rfl]
    by_cases h2 : s = i
    · subst h2
      rw [cu_self]
      by_cases h3 : s = c
      · subst h3; rw [if_pos rfl, cu_self]
      · rw [if_neg h3, if_pos rfl, cu_self]
    · rw [cu_ne _ _ h2]
      have : c ≠ (if i = c then s else if i = s then c else i) := by
        by_cases h3 : i = c
        · rw [if_pos h3]; omega
        · rw [if_neg h3, if_neg (by omega)]; omega
      rw [cu_ne _ _ this, if_pos rfl]
  · rw [if_neg h1]
    by_cases h2 : c = s
    · subst h2
      rw [if_pos rfl]
      by_cases h3 : r = i
      · subst h3; rw [cu_self, if_pos rfl, cu_self]
      · rw [cu_ne _ _ h3]
        have : c ≠ (if i = r then c else if i = c then r else i) := by
          rw [if_neg (by omega)]
          by_cases h4 : i = c
          · rw [if_pos h4]; omega
          · rw [if_neg h4]; omega
        rw [cu_ne _ _ this, if_neg h1, if_pos rfl]
    · rw [if_neg h2]
      by_cases h3 : c = i
      · subst h3; rw [cu_self, if_neg h1, if_neg h2, cu_self]
      · rw [cu_ne _ _ h3]
        have : c ≠ (if i = r then s else if i = s then r else i) := by
          by_cases h4 : i = r
          · rw [if_pos h4]; omega
          · rw [if_neg h4]
            by_cases h5 : i = s
            · rw [if_pos h5]; omega
            · rw [if_neg h5]; omega
        rw [cu_ne _ _ this, if_neg h1, if_neg h2]
