theorem i_5 {X : ZS} {σ : ZM} {T : ZM → Prop} (hz : σ 6 = fun _ => 0) (h : ∀ σ', (∀ c : Int, c < 6 → σ' c = σ c) → (σ' 6 0 = 7 ∧ σ' 6 1 = 0) → T σ') : ZC X (rX5_init 7) mX5_init [(2, 6)] 6 σ (zQv T) := by
  refine bk_X5_init (n := 6) (n1 := 7) la_6 ⟨la_7, by decide, by decide, rfl, h _ (fun c hc => ?_) ⟨?_, ?_⟩⟩
  · rw [z_up_far _ _ _ (by omega), z_new_n _ (by omega)]
  · exact z_up_same _ _ _ _
  · rw [z_up_ne _ (Or.inr (by decide)), z_new_n _ (by decide), hz]
theorem i_2 {X : ZS} {σ : ZM} {T : ZM → Prop} (h : ∀ σ', (∀ c : Int, c < 11 → σ' c = σ c) → (σ' 11 0 = 12 ∧ σ' 11 1 = 13 ∧ σ' 11 2 = 14 ∧ σ' 11 3 = 15) → T σ') : ZC X (rX2_init 15) mX2_init [(2, 11)] 11 σ (zQv T) := by
  refine bk_X2_init (n := 11) (n1 := 15) la_11 ⟨la_12, by decide, by decide, la_13, by decide, by decide, la_14, by decide, by decide, la_15, by decide, by decide, rfl, h _ (fun c hc => ?_) ⟨?_, ?_, ?_, ?_⟩⟩
  · rw [z_up_far _ _ _ (by omega), z_new_n _ (by omega), z_up_far _ _ _ (by omega), z_new_n _ (by omega), z_up_far _ _ _ (by omega), z_new_n _ (by omega), z_up_far _ _ _ (by omega), z_new_n _ (by omega)]
  · rw [z_up_ne _ (Or.inr (by decide)), z_new_n _ (by decide), z_up_ne _ (Or.inr (by decide)), z_new_n _ (by decide), z_up_ne _ (Or.inr (by decide)), z_new_n _ (by decide)]; exact z_up_same _ _ _ _
  · rw [z_up_ne _ (Or.inr (by decide)), z_new_n _ (by decide), z_up_ne _ (Or.inr (by decide)), z_new_n _ (by decide)]; exact z_up_same _ _ _ _
  · rw [z_up_ne _ (Or.inr (by decide)), z_new_n _ (by decide)]; exact z_up_same _ _ _ _
  · exact z_up_same _ _ _ _
/-- all whole numbers up to a cell are new -/
def W9 (σ : ZM) (lo hi : Int) : Prop := ∀ a : Int, z_l a = (9, 3) → lo ≤ a → a ≤ hi → P9 σ a
theorem W9.fr {σ σ' : ZM} {lo hi : Int} (h : W9 σ lo hi) (o : ∀ c : Int, lo ≤ c → c ≤ hi + 1 → z_l c ≠ (0, 7) → z_l c ≠ (4, 6) → z_l c ≠ (10, 4) → z_l c ≠ (23, 56) → z_l c ≠ (23, 8) → σ' c = σ c) : W9 σ' lo hi := fun a ha h1 h2 => by
  have r := zo_9_0 ha
  exact (h a ha h1 h2).fr (o a h1 (by omega) (by rw [ha]; decide) (by rw [ha]; decide) (by rw [ha]; decide) (by rw [ha]; decide) (by rw [ha]; decide)) (o (a + 1) (by omega) (by omega) (by rw [r]; decide) (by rw [r]; decide) (by rw [r]; decide) (by rw [r]; decide) (by rw [r]; decide))
theorem W9.add {σ σ' : ZM} {lo hi p : Int} (h : W9 σ lo hi) (o : ∀ c : Int, lo ≤ c → c < p → z_l c ≠ (0, 7) → z_l c ≠ (4, 6) → z_l c ≠ (10, 4) → z_l c ≠ (23, 56) → z_l c ≠ (23, 8) → σ' c = σ c) (hn : ∀ a : Int, z_l a = (9, 3) → hi < a → a < p → False) (hp : P9 σ' p) (hh : hi + 1 < p) : W9 σ' lo p := fun a ha h1 h2 => by
  by_cases q : a = p
  · subst q; exact hp
  · have q2 : a ≤ hi := by
      rcases Int.lt_or_le hi a with w | w
      · exact (hn a ha w (by omega)).elim
      · exact w
    have r := zo_9_0 ha
    exact (h a ha h1 q2).fr (o a h1 (by omega) (by rw [ha]; decide) (by rw [ha]; decide) (by rw [ha]; decide) (by rw [ha]; decide) (by rw [ha]; decide)) (o (a + 1) (by omega) (by omega) (by rw [r]; decide) (by rw [r]; decide) (by rw [r]; decide) (by rw [r]; decide) (by rw [r]; decide))
/-- where the whole numbers lie -/
theorem w_cases {a : Int} (h : z_l a = (9, 3)) : a = 18 ∨ a = 20 ∨ a = 22 ∨ a = 24 ∨ (29 ≤ a ∧ a ≤ 139 ∧ a % 2 = 1) ∨ (143 ≤ a ∧ a ≤ 167 ∧ a % 2 = 1) ∨ a = 173 ∨ a = 175 ∨ a = 177 ∨ a = 180 ∨ a = 182 ∨ a = 185 ∨ a = 187 ∨ a = 190 ∨ a = 192 ∨ a = 195 ∨ a = 197 := by
  have h1 := z_l_pos (a := a) (by rw [h]; decide)
  have h2 : ∀ i, i < z_lay.length → z_lay.getD i (99, 0) = (9, 3) → i ∈ [18, 20, 22, 24, 173, 175, 177, 180, 182, 185, 187, 190, 192, 195, 197] ∨ (29 ≤ i ∧ i ≤ 139 ∧ i % 2 = 1) ∨ (143 ≤ i ∧ i ≤ 167 ∧ i % 2 = 1) := by decide +kernel
  have h3 := h2 _ h1.2 h
  simp only [List.mem_cons, List.not_mem_nil, or_false] at h3
  omega
theorem l_grid {i : Nat} (h : i < 56) : z_l ((28 + 2 * i + 1 : Nat) : Int) = (9, 3) := by
  have h2 : ∀ i, i < 56 → z_lay.getD (28 + 2 * i + 1) (99, 0) = (9, 3) := by decide +kernel
  exact h2 i h
theorem l_wts {i : Nat} (h : i < 8) : z_l ((152 + 2 * i + 1 : Nat) : Int) = (9, 3) := by
  have h2 : ∀ i, i < 8 → z_lay.getD (152 + 2 * i + 1) (99, 0) = (9, 3) := by decide +kernel
  exact h2 i h
theorem i_4 {X : ZS} {σ : ZM} {T : ZM → Prop} (h : ∀ σ', (∀ c : Int, c < 16 → σ' c = σ c) → (σ' 16 0 = 17 ∧ σ' 16 1 = 18 ∧ σ' 16 2 = 20 ∧ σ' 16 3 = 22 ∧ σ' 16 4 = 24 ∧ σ' 16 5 = 26) → (σ' 26 0 = 27 ∧ σ' 26 1 = 28) → (∀ a : Int, z_l a = (9, 3) → 16 ≤ a → a ≤ 139 → P9 σ' a) → (∀ t : Int, 0 ≤ t → t < 56 → σ' 17 t = 29 + 2 * t) → T σ') : ZC X (rX4_init 140) mX4_init [(2, 16)] 16 σ (zQv T) := by
  refine bk_X4_init (n := 16) (n1 := 140) la_16 ⟨la_17, by decide, by decide, la_18, by decide, by decide, by decide, i_9 (n := 18) la_18 (z_new_s _ _) (fun σ9 o9 p9 => ⟨by decide, la_20, by decide, by decide, by decide, i_9 (n := 20) la_20 (z_new_s _ _) (fun σ17 o17 p17 => ⟨by decide, la_22, by decide, by decide, by decide, i_9 (n := 22) la_22 (z_new_s _ _) (fun σ25 o25 p25 => ⟨by decide, la_24, by decide, by decide, by decide, i_9 (n := 24) la_24 (z_new_s _ _) (fun σ33 o33 p33 => ⟨by decide, la_26, by decide, by decide, by decide, i_1 (n := 26) la_26 (fun σ41 o41 a0 a1 => ⟨by decide, ?_⟩)⟩)⟩)⟩)⟩)⟩
  have s9 : ∀ c : Int, c < 18 → σ9 c = z_up (z_new σ 17) 16 0 17 c := fun c hc => (o9 c hc).trans (z_new_n _ (by omega))
  have s17 : ∀ c : Int, c < 20 → σ17 c = z_up σ9 16 1 18 c := fun c hc => (o17 c hc).trans (z_new_n _ (by omega))
  have s25 : ∀ c : Int, c < 22 → σ25 c = z_up σ17 16 2 20 c := fun c hc => (o25 c hc).trans (z_new_n _ (by omega))
  have s33 : ∀ c : Int, c < 24 → σ33 c = z_up σ25 16 3 22 c := fun c hc => (o33 c hc).trans (z_new_n _ (by omega))
  have s41 : ∀ c : Int, c < 26 → σ41 c = z_up σ33 16 4 24 c := fun c hc => (o41 c hc).trans (z_new_n _ (by omega))
  obtain ⟨τ0, hτ0⟩ : ∃ τ0 : ZM, τ0 = z_up σ41 16 5 26 := ⟨_, rfl⟩
  have low : ∀ c : Int, c < 16 → τ0 c = σ c := fun c hc => by
    rw [hτ0, z_up_far _ _ _ (by omega), s41 c (by omega), z_up_far _ _ _ (by omega), s33 c (by omega), z_up_far _ _ _ (by omega), s25 c (by omega), z_up_far _ _ _ (by omega), s17 c (by omega), z_up_far _ _ _ (by omega), s9 c (by omega), z_up_far _ _ _ (by omega), z_new_n _ (by omega)]
  have row : τ0 16 0 = 17 ∧ τ0 16 1 = 18 ∧ τ0 16 2 = 20 ∧ τ0 16 3 = 22 ∧ τ0 16 4 = 24 ∧ τ0 16 5 = 26 := by
    have b5 : τ0 16 = fu (σ41 16) 5 26 := by rw [hτ0, z_up_row]
    have b4 : σ41 16 = fu (σ33 16) 4 24 := by rw [s41 16 (by decide), z_up_row]
    have b3 : σ33 16 = fu (σ25 16) 3 22 := by rw [s33 16 (by decide), z_up_row]
    have b2 : σ25 16 = fu (σ17 16) 2 20 := by rw [s25 16 (by decide), z_up_row]
    have b1 : σ17 16 = fu (σ9 16) 1 18 := by rw [s17 16 (by decide), z_up_row]
    have b0 : σ9 16 = fu ((z_new σ 17) 16) 0 17 := by rw [s9 16 (by decide), z_up_row]
    rw [b5, b4, b3, b2, b1, b0]
    exact ⟨rfl, rfl, rfl, rfl, rfl, rfl⟩
  have w24 : W9 τ0 16 24 := by
    have v33 : ∀ c : Int, 17 ≤ c → c < 26 → τ0 c = σ33 c := fun c h1 h2 => by rw [hτ0, z_up_far _ _ _ (by omega), s41 c (by omega), z_up_far _ _ _ (by omega)]
    have v25 : ∀ c : Int, 17 ≤ c → c < 24 → σ33 c = σ25 c := fun c h1 h2 => by rw [s33 c h2, z_up_far _ _ _ (by omega)]
    have v17 : ∀ c : Int, 17 ≤ c → c < 22 → σ25 c = σ17 c := fun c h1 h2 => by rw [s25 c h2, z_up_far _ _ _ (by omega)]
    have v9 : ∀ c : Int, 17 ≤ c → c < 20 → σ17 c = σ9 c := fun c h1 h2 => by rw [s17 c h2, z_up_far _ _ _ (by omega)]
    intro a ha h1 h2
    have c := w_cases ha
    have q : a = 18 ∨ a = 20 ∨ a = 22 ∨ a = 24 := by omega
    rcases q with q | q | q | q <;> subst q
    · exact P9.fr (σ := σ9) p9 (by rw [v33 _ (by decide) (by decide), v25 _ (by decide) (by decide), v17 _ (by decide) (by decide), v9 _ (by decide) (by decide)]) (by rw [v33 _ (by decide) (by decide), v25 _ (by decide) (by decide), v17 _ (by decide) (by decide), v9 _ (by decide) (by decide)])
    · exact P9.fr (σ := σ17) p17 (by rw [v33 _ (by decide) (by decide), v25 _ (by decide) (by decide), v17 _ (by decide) (by decide)]) (by rw [v33 _ (by decide) (by decide), v25 _ (by decide) (by decide), v17 _ (by decide) (by decide)])
    · exact P9.fr (σ := σ25) p25 (by rw [v33 _ (by decide) (by decide), v25 _ (by decide) (by decide)]) (by rw [v33 _ (by decide) (by decide), v25 _ (by decide) (by decide)])
    · exact P9.fr (σ := σ33) p33 (by rw [v33 _ (by decide) (by decide)]) (by rw [v33 _ (by decide) (by decide)])
  have d26 : τ0 26 0 = 27 ∧ τ0 26 1 = 28 := by rw [hτ0, z_up_far _ _ _ (by decide)]; exact ⟨a0, a1⟩
  -- the cells
  have loop : ∀ (l i : Nat) (τ : ZM), i + l = 56 → (∀ c : Int, c < 29 → c ≠ 17 → τ c = τ0 c) → (∀ t : Int, 0 ≤ t → t < i → τ 17 t = 29 + 2 * t) → (∀ j : Nat, j < i → P9 τ ((28 + 2 * j + 1 : Nat) : Int)) → Z X (rX4_init 140) mX4_init 70 [(2, 16), (0, (i : Int))] [] (28 + 2 * i) τ (zQv T) := by
    intro l
    induction l with
    | zero =>
      intro i τ hi o v p
      have : i = 56 := by omega
      subst this
      have e16 : τ 16 = τ0 16 := o 16 (by decide) (by decide)
      refine bk_X4_init_70 la_16 ⟨by decide, by rw [e16]; exact row.1, by decide, by decide, fun _ => ⟨rfl, h τ (fun c hc => by rw [o c (by omega) (by omega)]; exact low c hc) (by rw [e16]; exact row) (by rw [o 26 (by decide) (by decide)]; exact d26) (fun a ha h1 h2 => ?_) v⟩, fun q => absurd (by decide) q⟩
      have c := w_cases ha
      by_cases q : a ≤ 24
      · exact (w24 a ha h1 q).fr (o a (by omega) (by omega)) (o (a + 1) (by omega) (by omega))
      · have := p ((a - 29) / 2).toNat (by omega)
        rw [show ((28 + 2 * ((a - 29) / 2).toNat + 1 : Nat) : Int) = a by omega] at this
        exact this
    | succ l ih =>
      intro i τ hi o v p
      have e16 : τ 16 = τ0 16 := o 16 (by decide) (by decide)
      refine bk_X4_init_70 la_16 ⟨by show 16 ≤ 28 + 2 * i; omega, by rw [e16]; exact row.1, by show 17 ≤ 28 + 2 * i; omega, by constructor <;> omega, fun q => absurd q (by omega), fun _ => ⟨l_grid (by omega), by omega, by omega, by omega, i_9 (n := 28 + 2 * i + 1) (l_grid (by omega)) (z_new_s _ _) (fun σ11 o11 p11 => ⟨by show 17 ≤ 28 + 2 * i + 1 + 1; omega, by omega, by omega, by omega, ?_⟩)⟩⟩
      have f11 : ∀ c : Int, c < ((28 + 2 * i + 1 : Nat) : Int) → σ11 c = τ c := fun c hc => (o11 c hc).trans (z_new_n _ (by omega))
      refine ih (i + 1) (z_up σ11 17 (i : Int) ((28 + 2 * i + 1 : Nat) : Int)) (by omega) (fun c h1 h2 => ?_) (fun t t0 t1 => ?_) (fun j hj => ?_)
      · rw [z_up_far _ _ _ h2, f11 c (by omega)]; exact o c h1 h2
      · rw [z_up_row]
        by_cases q : t = i
        · subst q; rw [fu_s]; omega
        · rw [fu_n _ _ q, f11 17 (by omega)]; exact v t t0 (by omega)
      · by_cases q : j = i
        · subst q
          exact p11.fr (z_up_far _ _ _ (by omega)) (z_up_far _ _ _ (by omega))
        · exact (p j (by omega)).fr (by rw [z_up_far _ _ _ (by omega), f11 _ (by omega)]) (by rw [z_up_far _ _ _ (by omega), f11 _ (by omega)])
  have L := loop 56 0 τ0 rfl (fun _ _ _ => rfl) (fun t _ _ => by omega) (fun j hj => by omega)
  rw [hτ0] at L
  exact L
