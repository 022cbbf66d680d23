theorem GP.swap {g h : Int → Int} (hg : GP g) {k s : Nat} (hk : k < 7) (hs : s < 7) (he : ∀ i j : Nat, i < 7 → j < 8 → h ((i : Int) * 8 + j) = g (((tr k s i : Nat) : Int) * 8 + j)) : GP h := by
  have dec : ∀ t : Int, 0 ≤ t → t < 56 → ∃ i j : Nat, i < 7 ∧ j < 8 ∧ t = (i : Int) * 8 + j := fun t t0 t1 => ⟨(t / 8).toNat, (t % 8).toNat, by omega, by omega, by omega⟩
  refine ⟨fun t t0 t1 => ?_, fun a b a0 a1 b0 b1 hab => ?_⟩
  · obtain ⟨i, j, i7, j8, rfl⟩ := dec t t0 t1
    rw [he i j i7 j8]
    exact hg.at (tr_lt hk hs i7) j8
  · obtain ⟨i, j, i7, j8, rfl⟩ := dec a a0 a1
    obtain ⟨i', j', i7', j8', rfl⟩ := dec b b0 b1
    rw [he i j i7 j8, he i' j' i7' j8'] at hab
    have q := hg.ne (tr_lt hk hs i7) j8 (tr_lt hk hs i7') j8' hab
    have e : i = i' := by
      have := congrArg (tr k s) q.1
      rw [tr_tr, tr_tr] at this; exact this
    rw [e, q.2]
theorem WN.p17 {σ σ' : ZM} {w : Int → Int} (h : WN σ w) (hf : Fix σ') (he : ∀ c : Int, c ≠ 17 → σ' c = σ c) : WN σ' w := by
  have n17 : ∀ a : Int, z_l a = (9, 3) → a ≠ 17 ∧ a + 1 ≠ 17 := fun a ha => by
    refine ⟨fun q => ?_, fun q => ?_⟩
    · rw [q, la_17] at ha; cases ha
    · have := zo_9_0 ha
      rw [q, la_17] at this; cases this
  refine ⟨hf, fun a ha => ?_, fun a ha => ?_⟩
  · have := h.wf ha
    unfold WF at this ⊢
    rw [he a (n17 a ha).1, he (a + 1) (n17 a ha).2]; exact this
  · have := h.val ha
    unfold wv wm at this ⊢
    rw [he a (n17 a ha).1, he (a + 1) (n17 a ha).2]; exact this
theorem c_bringPivot {X : ZS} {σ : ZM} {T : Bool → ZM → Prop} {w : Int → Int} {k rows : Nat} (hk : k < rows) (hr : rows ≤ 7) (hg : GP (σ 17)) (h : WN σ w)
    (h0 : (∀ i : Nat, k ≤ i → i < rows → w (σ 17 ((i : Int) * 8 + k)) = 0) → T false σ)
    (h1 : ∀ (s : Nat) (σ' : ZM), k ≤ s → s < rows → w (σ 17 ((s : Int) * 8 + k)) ≠ 0 → WN σ' w → (∀ c : Int, c ≠ 17 → σ' c = σ c) → (∀ i j : Nat, i < 7 → j < 8 → σ' 17 ((i : Int) * 8 + j) = σ 17 (((tr k s i : Nat) : Int) * 8 + j)) → T true σ') :
    ZC X (rX4_bringPivot zN) mX4_bringPivot [(2, 16), (0, (k : Int)), (0, (rows : Int))] zN σ (zQz T) := by
  have fnd : ∀ s : Nat, k ≤ s → s < rows → w (σ 17 ((s : Int) * 8 + k)) ≠ 0 → ∀ (l j : Nat) (τ : ZM), j + l = 8 → Fix τ → (∀ c : Int, c ≠ 17 → τ c = σ c) → (∀ i j' : Nat, i < 7 → j' < 8 → τ 17 ((i : Int) * 8 + j') = if j' < j then σ 17 (((tr k s i : Nat) : Int) * 8 + j') else σ 17 ((i : Int) * 8 + j')) →
      Z X (rX4_bringPivot zN) mX4_bringPivot 54 [(2, 16), (0, (k : Int)), (9, 0), (0, (s : Int)), (0, (j : Int)), (9, 0)] [] zN τ (zQz T) := by
    intro s ks sr hne l
    induction l with
    | zero =>
      intro j τ hj hf ho hi
      refine bk_X4_bringPivot_54 ⟨by constructor <;> omega, fun _ => ?_, fun q => absurd (by omega) q⟩
      exact h1 s τ ks sr hne (h.p17 hf ho) ho (fun i j' i7 j8 => by rw [hi i j' i7 j8, if_pos (by omega)])
    | succ l ih =>
      intro j τ hj hf ho hi
      have e1 : τ 17 ((k : Int) * 8 + j) = σ 17 ((k : Int) * 8 + j) := by rw [hi k j (by omega) (by omega), if_neg (by omega)]
      have e2 : τ 17 ((s : Int) * 8 + j) = σ 17 ((s : Int) * 8 + j) := by rw [hi s j (by omega) (by omega), if_neg (by omega)]
      have l1 := hg.at (i := k) (j := j) (by omega) (by omega)
      have l2 := hg.at (i := s) (j := j) (by omega) (by omega)
      refine bk_X4_bringPivot_54 ⟨by constructor <;> omega, fun q => absurd q (by omega), fun _ => ⟨hf, by omega, by omega, by omega, by omega, by rw [e2]; exact l2.1, by rw [e1]; exact l1.1, ?_⟩⟩
      rw [e1, e2]
      refine ih (j + 1) _ (by omega) ((hf.upA la_17 (by decide)).upA la_17 (by decide)) (fun c hc => by rw [z_up_far _ _ _ hc, z_up_far _ _ _ hc]; exact ho c hc) (fun i j' i7 j8 => ?_)
      rw [z_up_row, z_up_row]
      by_cases hj' : j' = j
      · subst hj'
        rw [if_pos (by omega)]
        by_cases c1 : i = s
        · subst c1
          rw [fu_s]
          have : tr k i i = k := by unfold tr; split <;> (try split) <;> omega
          rw [this]
        · rw [fu_n _ _ (by omega)]
          by_cases c2 : i = k
          · subst c2
            rw [fu_s]
            have : tr i s i = s := by unfold tr; rw [if_pos rfl]
            rw [this]
          · rw [fu_n _ _ (by omega), hi i j' i7 j8, if_neg (by omega)]
            have : tr k s i = i := by unfold tr; rw [if_neg c2, if_neg c1]
            rw [this]
      · rw [fu_n _ _ (by omega), fu_n _ _ (by omega), hi i j' i7 j8]
        by_cases c : j' < j
        · rw [if_pos c, if_pos (by omega)]
        · rw [if_neg c, if_neg (by omega)]
  have go : ∀ s : Nat, k ≤ s → s < rows → w (σ 17 ((s : Int) * 8 + k)) ≠ 0 → Z X (rX4_bringPivot zN) mX4_bringPivot 54 [(2, 16), (0, (k : Int)), (9, 0), (0, (s : Int)), (0, 0), (9, 0)] [] zN σ (zQz T) := fun s ks sr hne => fnd s ks sr hne 8 0 σ (by decide) h.1 (fun _ _ => rfl) (fun i j' _ _ => by rw [if_neg (by omega)])
  have seek : ∀ (l i : Nat), i + l = rows → k ≤ i → (∀ i' : Nat, k ≤ i' → i' < i → w (σ 17 ((i' : Int) * 8 + k)) = 0) →
      Z X (rX4_bringPivot zN) mX4_bringPivot 5 [(2, 16), (0, (k : Int)), (0, (rows : Int)), (0, (-1)), (0, (i : Int)), (9, 0)] [] zN σ (zQz T) := by
    intro l
    induction l with
    | zero =>
      intro i hi ki hz
      refine bk_X4_bringPivot_5 ⟨by constructor <;> omega, by constructor <;> omega, fun _ => ⟨by decide, fun _ => h0 (fun i' a b => hz i' a (by omega)), fun q => absurd rfl q⟩, fun q => absurd (by omega) q⟩
    | succ l ih =>
      intro i hi ki hz
      have la := hg.at (i := i) (j := k) (by omega) (by omega)
      have sg := (h.sgn la.1).1
      refine bk_X4_bringPivot_5 ⟨by constructor <;> omega, by constructor <;> omega, fun q => absurd q (by omega), fun _ => ⟨by decide, fun q => absurd rfl q, fun _ => c_cell (by omega) (by omega) h.1 ⟨la.1, (h.wf la.1).g32, fun q => ?_, fun q => ?_⟩⟩⟩
      · refine ih (i + 1) (by omega) (by omega) (fun i' a b => ?_)
        by_cases c : i' = i
        · rw [c]; exact sg.mp q
        · exact hz i' a (by omega)
      · have g := go i ki (by omega) (fun q2 => q (sg.mpr q2))
        by_cases c : i + 1 < rows
        · refine bk_X4_bringPivot_5 ⟨by constructor <;> omega, by constructor <;> omega, fun q => absurd q (by omega), fun _ => ⟨by constructor <;> omega, fun _ => ⟨fun q => absurd q (by omega), fun _ => ⟨fun _ => g, fun q => absurd (by omega) q⟩⟩, fun q => absurd q (by omega)⟩⟩
        · refine bk_X4_bringPivot_5 ⟨by constructor <;> omega, by constructor <;> omega, fun _ => ⟨by constructor <;> omega, fun q => absurd q (by omega), fun _ => ⟨fun _ => g, fun q => absurd (by omega) q⟩⟩, fun q => absurd (by omega) q⟩
  exact bk_X4_bringPivot (seek (rows - k) k (by omega) (Nat.le_refl _) (fun i' a b => absurd b (by omega)))
