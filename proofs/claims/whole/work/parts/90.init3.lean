theorem i_0 {X : ZS} {σ : ZM} {T : ZM → Prop} (hz : σ 141 = fun _ => 0) (h : ∀ σ', (∀ c : Int, c < 141 → σ' c = σ c) → (σ' 141 0 = 142 ∧ σ' 141 1 = 143 ∧ σ' 141 2 = 145 ∧ σ' 141 3 = 147 ∧ σ' 141 4 = 149 ∧ σ' 141 5 = 151 ∧ σ' 141 6 = 0) → (∀ a : Int, z_l a = (9, 3) → 141 ≤ a → a ≤ 167 → P9 σ' a) → (∀ t : Int, 0 ≤ t → t < 8 → σ' 142 t = 153 + 2 * t) → T σ') : ZC X (rX0_init 168) mX0_init [(2, 141)] 141 σ (zQv T) := by
  refine bk_X0_init (n := 141) (n1 := 168) la_141 ⟨la_142, by decide, by decide, la_143, by decide, by decide, by decide, i_9 (n := 143) la_143 (z_new_s _ _) (fun σ9 o9 p9 => ⟨by decide, la_145, by decide, by decide, by decide, i_9 (n := 145) la_145 (z_new_s _ _) (fun σ17 o17 p17 => ⟨by decide, la_147, by decide, by decide, by decide, i_9 (n := 147) la_147 (z_new_s _ _) (fun σ25 o25 p25 => ⟨by decide, la_149, by decide, by decide, by decide, i_9 (n := 149) la_149 (z_new_s _ _) (fun σ33 o33 p33 => ⟨by decide, la_151, by decide, by decide, by decide, i_9 (n := 151) la_151 (z_new_s _ _) (fun σ41 o41 p41 => ⟨by decide, ?_⟩)⟩)⟩)⟩)⟩)⟩
  have s9 : ∀ c : Int, c < 143 → σ9 c = z_up (z_new σ 142) 141 0 142 c := fun c hc => (o9 c hc).trans (z_new_n _ (by omega))
  have s17 : ∀ c : Int, c < 145 → σ17 c = z_up σ9 141 1 143 c := fun c hc => (o17 c hc).trans (z_new_n _ (by omega))
  have s25 : ∀ c : Int, c < 147 → σ25 c = z_up σ17 141 2 145 c := fun c hc => (o25 c hc).trans (z_new_n _ (by omega))
  have s33 : ∀ c : Int, c < 149 → σ33 c = z_up σ25 141 3 147 c := fun c hc => (o33 c hc).trans (z_new_n _ (by omega))
  have s41 : ∀ c : Int, c < 151 → σ41 c = z_up σ33 141 4 149 c := fun c hc => (o41 c hc).trans (z_new_n _ (by omega))
  obtain ⟨τ0, hτ0⟩ : ∃ τ0 : ZM, τ0 = z_up σ41 141 5 151 := ⟨_, rfl⟩
  have low : ∀ c : Int, c < 141 → τ0 c = σ c := fun c hc => by
    rw [hτ0, z_up_far _ _ _ (by omega), s41 c (by omega), z_up_far _ _ _ (by omega), s33 c (by omega), z_up_far _ _ _ (by omega), s25 c (by omega), z_up_far _ _ _ (by omega), s17 c (by omega), z_up_far _ _ _ (by omega), s9 c (by omega), z_up_far _ _ _ (by omega), z_new_n _ (by omega)]
  have row : τ0 141 0 = 142 ∧ τ0 141 1 = 143 ∧ τ0 141 2 = 145 ∧ τ0 141 3 = 147 ∧ τ0 141 4 = 149 ∧ τ0 141 5 = 151 ∧ τ0 141 6 = 0 := by
    have b5 : τ0 141 = fu (σ41 141) 5 151 := by rw [hτ0, z_up_row]
    have b4 : σ41 141 = fu (σ33 141) 4 149 := by rw [s41 141 (by decide), z_up_row]
    have b3 : σ33 141 = fu (σ25 141) 3 147 := by rw [s33 141 (by decide), z_up_row]
    have b2 : σ25 141 = fu (σ17 141) 2 145 := by rw [s25 141 (by decide), z_up_row]
    have b1 : σ17 141 = fu (σ9 141) 1 143 := by rw [s17 141 (by decide), z_up_row]
    have b0 : σ9 141 = fu (fun _ => 0) 0 142 := by rw [s9 141 (by decide), z_up_row, z_new_n _ (by decide), hz]
    rw [b5, b4, b3, b2, b1, b0]
    exact ⟨rfl, rfl, rfl, rfl, rfl, rfl, rfl⟩
  have w51 : W9 τ0 141 151 := by
    have v41 : ∀ c : Int, 142 ≤ c → τ0 c = σ41 c := fun c h1 => by rw [hτ0, z_up_far _ _ _ (by omega)]
    have v33 : ∀ c : Int, 142 ≤ c → c < 151 → σ41 c = σ33 c := fun c h1 h2 => by rw [s41 c h2, z_up_far _ _ _ (by omega)]
    have v25 : ∀ c : Int, 142 ≤ c → c < 149 → σ33 c = σ25 c := fun c h1 h2 => by rw [s33 c h2, z_up_far _ _ _ (by omega)]
    have v17 : ∀ c : Int, 142 ≤ c → c < 147 → σ25 c = σ17 c := fun c h1 h2 => by rw [s25 c h2, z_up_far _ _ _ (by omega)]
    have v9 : ∀ c : Int, 142 ≤ c → c < 145 → σ17 c = σ9 c := fun c h1 h2 => by rw [s17 c h2, z_up_far _ _ _ (by omega)]
    intro a ha h1 h2
    have c := w_cases ha
    have q : a = 143 ∨ a = 145 ∨ a = 147 ∨ a = 149 ∨ a = 151 := by omega
    rcases q with q | q | q | q | q <;> subst q
    · exact P9.fr (σ := σ9) p9 (by rw [v41 _ (by decide), v33 _ (by decide) (by decide), v25 _ (by decide) (by decide), v17 _ (by decide) (by decide), v9 _ (by decide) (by decide)]) (by rw [v41 _ (by decide), v33 _ (by decide) (by decide), v25 _ (by decide) (by decide), v17 _ (by decide) (by decide), v9 _ (by decide) (by decide)])
    · exact P9.fr (σ := σ17) p17 (by rw [v41 _ (by decide), v33 _ (by decide) (by decide), v25 _ (by decide) (by decide), v17 _ (by decide) (by decide)]) (by rw [v41 _ (by decide), v33 _ (by decide) (by decide), v25 _ (by decide) (by decide), v17 _ (by decide) (by decide)])
    · exact P9.fr (σ := σ25) p25 (by rw [v41 _ (by decide), v33 _ (by decide) (by decide), v25 _ (by decide) (by decide)]) (by rw [v41 _ (by decide), v33 _ (by decide) (by decide), v25 _ (by decide) (by decide)])
    · exact P9.fr (σ := σ33) p33 (by rw [v41 _ (by decide), v33 _ (by decide) (by decide)]) (by rw [v41 _ (by decide), v33 _ (by decide) (by decide)])
    · exact P9.fr (σ := σ41) p41 (by rw [v41 _ (by decide)]) (by rw [v41 _ (by decide)])
  have loop : ∀ (l i : Nat) (τ : ZM), i + l = 8 → (∀ c : Int, c < 153 → c ≠ 142 → τ c = τ0 c) → (∀ t : Int, 0 ≤ t → t < i → τ 142 t = 153 + 2 * t) → (∀ j : Nat, j < i → P9 τ ((152 + 2 * j + 1 : Nat) : Int)) → Z X (rX0_init 168) mX0_init 70 [(2, 141), (0, (i : Int))] [] (152 + 2 * i) τ (zQv T) := by
    intro l
    induction l with
    | zero =>
      intro i τ hi o v p
      have : i = 8 := by omega
      subst this
      have e16 : τ 141 = τ0 141 := o 141 (by decide) (by decide)
      refine bk_X0_init_70 la_141 ⟨by decide, fun _ => ⟨rfl, h τ (fun c hc => by rw [o c (by omega) (by omega)]; exact low c hc) (by rw [e16]; exact row) (fun a ha h1 h2 => ?_) v⟩, fun q => absurd (by decide) q⟩
      have c := w_cases ha
      by_cases q : a ≤ 151
      · exact (w51 a ha h1 q).fr (o a (by omega) (by omega)) (o (a + 1) (by omega) (by omega))
      · have := p ((a - 153) / 2).toNat (by omega)
        rw [show ((152 + 2 * ((a - 153) / 2).toNat + 1 : Nat) : Int) = a by omega] at this
        exact this
    | succ l ih =>
      intro i τ hi o v p
      have e16 : τ 141 = τ0 141 := o 141 (by decide) (by decide)
      refine bk_X0_init_70 la_141 ⟨by constructor <;> omega, fun q => absurd q (by omega), fun _ => ⟨by show 141 ≤ 152 + 2 * i; omega, by rw [e16]; exact row.1, l_wts (by omega), by omega, by omega, by omega, i_9 (n := 152 + 2 * i + 1) (l_wts (by omega)) (z_new_s _ _) (fun σ11 o11 p11 => ⟨by show 142 ≤ 152 + 2 * i + 1 + 1; omega, by omega, by omega, by omega, ?_⟩)⟩⟩
      have f11 : ∀ c : Int, c < ((152 + 2 * i + 1 : Nat) : Int) → σ11 c = τ c := fun c hc => (o11 c hc).trans (z_new_n _ (by omega))
      refine ih (i + 1) (z_up σ11 142 (i : Int) ((152 + 2 * i + 1 : Nat) : Int)) (by omega) (fun c h1 h2 => ?_) (fun t t0 t1 => ?_) (fun j hj => ?_)
      · rw [z_up_far _ _ _ h2, f11 c (by omega)]; exact o c h1 h2
      · rw [z_up_row]
        by_cases q : t = i
        · subst q; rw [fu_s]; omega
        · rw [fu_n _ _ q, f11 142 (by omega)]; exact v t t0 (by omega)
      · by_cases q : j = i
        · subst q
          exact p11.fr (z_up_far _ _ _ (by omega)) (z_up_far _ _ _ (by omega))
        · exact (p j (by omega)).fr (by rw [z_up_far _ _ _ (by omega), f11 _ (by omega)]) (by rw [z_up_far _ _ _ (by omega), f11 _ (by omega)])
  have L := loop 8 0 τ0 rfl (fun _ _ _ => rfl) (fun t _ _ => by omega) (fun j hj => by omega)
  rw [hτ0] at L
  exact L
theorem i_10 {X : ZS} {σ : ZM} {T : ZM → Prop} (h : ∀ σ', (∀ c : Int, c < 169 → σ' c = σ c) → (σ' 169 0 = 170 ∧ σ' 169 1 = 173 ∧ σ' 169 2 = 175 ∧ σ' 169 3 = 177) → (σ' 170 0 = 171 ∧ σ' 170 1 = 172) → (∀ a : Int, z_l a = (9, 3) → 169 ≤ a → a ≤ 178 → P9 σ' a) → T σ') : ZC X (rX10_init 178) mX10_init [(2, 169)] 169 σ (zQv T) := by
  refine bk_X10_init (n := 169) (n1 := 178) la_169 ⟨la_170, by decide, by decide, by decide, i_1 (n := 170) la_170 (fun σ6 o6 a0 a1 => ⟨by decide, la_173, by decide, by decide, by decide, i_9 (n := 173) la_173 (z_new_s _ _) (fun σ14 o14 p14 => ⟨by decide, la_175, by decide, by decide, by decide, i_9 (n := 175) la_175 (z_new_s _ _) (fun σ22 o22 p22 => ⟨by decide, la_177, by decide, by decide, by decide, i_9 (n := 177) la_177 (z_new_s _ _) (fun σ30 o30 p30 => ⟨by decide, rfl, ?_⟩)⟩)⟩)⟩)⟩
  have s6 : ∀ c : Int, c < 170 → σ6 c = σ c := fun c hc => (o6 c hc).trans (z_new_n _ (by omega))
  have s14 : ∀ c : Int, c < 173 → σ14 c = z_up σ6 169 0 170 c := fun c hc => (o14 c hc).trans (z_new_n _ (by omega))
  have s22 : ∀ c : Int, c < 175 → σ22 c = z_up σ14 169 1 173 c := fun c hc => (o22 c hc).trans (z_new_n _ (by omega))
  have s30 : ∀ c : Int, c < 177 → σ30 c = z_up σ22 169 2 175 c := fun c hc => (o30 c hc).trans (z_new_n _ (by omega))
  refine h _ (fun c hc => ?_) ⟨?_, ?_, ?_, ?_⟩ ⟨?_, ?_⟩ (fun a ha h1 h2 => ?_)
  · rw [z_up_far _ _ _ (by omega), s30 c (by omega), z_up_far _ _ _ (by omega), s22 c (by omega), z_up_far _ _ _ (by omega), s14 c (by omega), z_up_far _ _ _ (by omega), s6 c (by omega)]
  · rw [z_up_ne _ (Or.inr (by decide)), s30 169 (by decide), z_up_ne _ (Or.inr (by decide)), s22 169 (by decide), z_up_ne _ (Or.inr (by decide)), s14 169 (by decide), z_up_same]
  · rw [z_up_ne _ (Or.inr (by decide)), s30 169 (by decide), z_up_ne _ (Or.inr (by decide)), s22 169 (by decide), z_up_same]
  · rw [z_up_ne _ (Or.inr (by decide)), s30 169 (by decide), z_up_same]
  · exact z_up_same _ _ _ _
  · rw [z_up_far _ _ _ (by decide), s30 170 (by decide), z_up_far _ _ _ (by decide), s22 170 (by decide), z_up_far _ _ _ (by decide), s14 170 (by decide), z_up_far _ _ _ (by decide)]; exact a0
  · rw [z_up_far _ _ _ (by decide), s30 170 (by decide), z_up_far _ _ _ (by decide), s22 170 (by decide), z_up_far _ _ _ (by decide), s14 170 (by decide), z_up_far _ _ _ (by decide)]; exact a1
  · have c := w_cases ha
    have q : a = 173 ∨ a = 175 ∨ a = 177 := by omega
    rcases q with q | q | q <;> subst q
    · exact P9.fr (σ := σ14) p14 (by rw [z_up_far _ _ _ (by decide), s30 _ (by decide), z_up_far _ _ _ (by decide), s22 _ (by decide), z_up_far _ _ _ (by decide)]) (by rw [z_up_far _ _ _ (by decide), s30 _ (by decide), z_up_far _ _ _ (by decide), s22 _ (by decide), z_up_far _ _ _ (by decide)])
    · exact P9.fr (σ := σ22) p22 (by rw [z_up_far _ _ _ (by decide), s30 _ (by decide), z_up_far _ _ _ (by decide)]) (by rw [z_up_far _ _ _ (by decide), s30 _ (by decide), z_up_far _ _ _ (by decide)])
    · exact P9.fr (σ := σ30) p30 (by rw [z_up_far _ _ _ (by decide)]) (by rw [z_up_far _ _ _ (by decide)])
