theorem la_w {s : Int} (h0 : 0 ≤ s) (h1 : s < 8) : z_l (153 + 2 * s) = (9, 3) := by
  have i8 : s = 0 ∨ s = 1 ∨ s = 2 ∨ s = 3 ∨ s = 4 ∨ s = 5 ∨ s = 6 ∨ s = 7 := by omega
  rcases i8 with e | e | e | e | e | e | e | e <;> rw [e]
  · exact la_153
  · exact la_155
  · exact la_157
  · exact la_159
  · exact la_161
  · exact la_163
  · exact la_165
  · exact la_167
theorem WN.z141 {σ : ZM} {w : Int → Int} (h : WN σ w) {x : Int} : WN (z_up σ 141 6 x) w := by
  have nn : ∀ a : Int, z_l a = (9, 3) → a ≠ 141 ∧ a + 1 ≠ 141 := fun a ha => by
    refine ⟨fun q => ?_, fun q => ?_⟩
    · rw [q, la_141] at ha; cases ha
    · have := zo_9_0 ha
      rw [q, la_141] at this; cases this
  refine ⟨h.1.upF la_141 6 (by decide +kernel), fun a ha => ?_, fun a ha => ?_⟩
  · exact wf_fr (z_up_far _ _ _ (nn a ha).1) (z_up_far _ _ _ (nn a ha).2) (h.wf ha)
  · rw [wv_fr (z_up_far _ _ _ (nn a ha).1) (z_up_far _ _ _ (nn a ha).2)]; exact h.val ha
theorem c_takeWeights {X : ZS} {σ α : ZM} {T : ZM → Prop} {w : Int → Int} {u : Nat} {d : Nat → Nat} {C : Nat → Bool} {D P F : Int} {y : Nat → Int} (hn : WN σ w) (hg : GP (σ 17)) (h142 : ∀ i : Int, 0 ≤ i → i < 8 → σ 142 i = 153 + 2 * i) (o : Ord C (u + 1) d) (cd : CD σ α (u + 1) d) (hB : w 147 = D * P) (hy : ∀ l : Nat, l < u → w (σ 17 ((l : Int) * 8 + (u : Int))) = y l) (F0 : 0 ≤ F) (F9 : 1000 * F < pw 12) (bD : -(6 * F) ≤ D * P ∧ D * P ≤ 6 * F) (by' : ∀ l : Nat, l < u → -F ≤ y l ∧ y l ≤ F)
    (h : ∀ σ' w', Ou 153 168 σ σ' → WN σ' w' → (∀ j : Nat, j < u + 1 → w' (153 + 2 * (d j : Nat)) = wts D P u y j) → (∀ s : Nat, s < 8 → C s = false → w' (153 + 2 * (s : Int)) = 0) → (∀ a : Int, a < 153 ∨ 168 < a → w' a = w a) → T σ') : ZC X (rX0_takeWeights zN) mX0_takeWeights [(2, 141), (2, 11), (2, 16)] zN σ (zQv T) := by
  have k8 := cd.2.1
  have d8 : ∀ j, j < u + 1 → d j < 8 := fun j hj => (o.1 j hj).1
  have sb : ∀ i : Nat, i ≤ u → -(7 * F) ≤ sm y i ∧ sm y i ≤ 7 * F := fun i hi => by
    have := sm_abs (f := y) (B := F) (n := i) (fun l hl => by' l (by omega))
    have : (i : Int) * F ≤ 7 * F := Int.mul_le_mul_of_nonneg_right (by omega) F0
    omega
  -- the second loop
  have loop2 : ∀ (r i : Nat) (τ : ZM) (v : Int → Int), i + r = u → Ou 153 168 σ τ → WN τ v → (∀ j : Nat, j < u + 1 → v (153 + 2 * (d j : Nat)) = if j = 0 then D * P - sm y i else if j < i + 1 then y (j - 1) else 0) → (∀ s : Nat, s < 8 → C s = false → v (153 + 2 * (s : Int)) = 0) → (∀ a : Int, a < 153 ∨ 168 < a → v a = w a) → Z X (rX0_takeWeights zN) mX0_takeWeights 47 [(2, 141), (2, 11), (2, 16), (2, 153 + 2 * (d 0 : Nat)), (0, ((i + 1 : Nat) : Int)), (9, 0)] [] zN τ (zQv T) := by
    intro r
    induction r with
    | zero =>
      intro i τ v hi oo n vd vc va
      have : i = u := by omega
      subst this
      have t4 : τ 11 4 = ((i + 1 : Nat) : Int) := by rw [oo 11 (by decide)]; exact cd.1
      refine bk_X0_takeWeights_47 (la_w (by omega) (by have := d8 0 (by omega); omega)) ⟨by constructor <;> omega, by rw [t4]; constructor <;> omega, fun _ => h τ v oo n (fun j hj => ?_) vc va, fun q => absurd (by rw [t4]; exact Int.le_refl _) q⟩
      rw [vd j hj]
      cases j with
      | zero => rfl
      | succ j => rw [if_neg (by omega), if_pos (by omega)]; rfl
    | succ r ih =>
      intro i τ v hi oo n vd vc va
      have t4 : τ 11 4 = ((u + 1 : Nat) : Int) := by rw [oo 11 (by decide)]; exact cd.1
      have dj := cd.2.2.1 (i + 1) (by omega)
      have e142 : ∀ x : Int, 0 ≤ x → x < 8 → τ 142 x = 153 + 2 * x := fun x h0 h1 => by rw [oo 142 (by decide)]; exact h142 x h0 h1
      have dd := d8 (i + 1) (by omega)
      have d0 := d8 0 (by omega)
      have dne : d (i + 1) ≠ d 0 := fun q => by have := o.2.1 (i + 1) 0 (by omega) (by omega) q; omega
      refine bk_X0_takeWeights_47 (la_w (by omega) (by omega)) ⟨by constructor <;> omega, by rw [t4]; constructor <;> omega, fun q => absurd q (by rw [t4]; omega), fun _ => ⟨n.1, by omega, by omega, ?_⟩⟩
      rw [oo 12 (by decide), dj.1, t4, show ((i + 1 : Nat) : Int) - 1 = (i : Int) by omega, show ((u + 1 : Nat) : Int) - 1 = (u : Int) by omega, e142 _ (by omega) (by omega)]
      refine ⟨by omega, by omega, c_cell (by omega) (by omega) n.1 ⟨la_w (by omega) (by omega), ?_⟩⟩
      rw [oo 17 (by decide)]
      have lp := hg.at (i := i) (j := u) (by omega) (by omega)
      refine w_copy (la_w (by omega) (by omega)) lp.1 (by omega) n (fun σ12 o12 n12 => ?_)
      obtain ⟨v12, hv12⟩ : ∃ v12 : Int → Int, v12 = fu v (153 + 2 * (d (i + 1) : Nat)) (v (σ 17 ((i : Int) * 8 + (u : Int)))) := ⟨_, rfl⟩
      rw [← hv12] at n12
      have p1 : v12 (153 + 2 * (d (i + 1) : Nat)) = y i := by rw [hv12, fu_s, va _ (by omega), hy i (by omega)]
      have p0 : v12 (153 + 2 * (d 0 : Nat)) = D * P - sm y i := by rw [hv12, fu_n _ _ (by omega), vd 0 (by omega), if_pos rfl]
      have ev : v12 (153 + 2 * (d 0 : Nat)) + -1 * v12 (153 + 2 * (d (i + 1) : Nat)) = D * P - sm y (i + 1) := by
        rw [p0, p1]
        show _ = D * P - (sm y i + y i)
        omega
      have s1 := sb (i + 1) (by omega)
      refine w_add (la_w (by omega) (by omega)) (la_w (by omega) (by omega)) (by omega) n12 (by decide) (by rw [ev]; omega) (by rw [ev]; omega) (fun σ14 o14 n14 => ?_)
      rw [ev] at n14
      refine ih (i + 1) σ14 _ (by omega) ((oo.trans (Ou.ofW o12 (by omega) (by omega))).trans (Ou.ofW o14 (by omega) (by omega))) n14 (fun j hj => ?_) (fun s hs cs => ?_) (fun a ha => ?_)
      · have dj8 := d8 j hj
        by_cases j0 : j = 0
        · subst j0; rw [fu_s, if_pos rfl]
        · have ne0 : d j ≠ d 0 := fun q => j0 (o.2.1 j 0 hj (by omega) q)
          rw [fu_n _ _ (by omega), if_neg j0]
          by_cases j1 : j = i + 1
          · subst j1; rw [p1, if_pos (by omega)]; rfl
          · have ne1 : d j ≠ d (i + 1) := fun q => j1 (o.2.1 j (i + 1) hj (by omega) q)
            rw [hv12, fu_n _ _ (by omega), vd j hj, if_neg j0]
            by_cases j2 : j < i + 1
            · rw [if_pos j2, if_pos (by omega)]
            · rw [if_neg j2, if_neg (by omega)]
      · have c0 := (o.1 0 (by omega)).2
        have c1 := (o.1 (i + 1) (by omega)).2
        have n0 : s ≠ d 0 := fun q => by rw [q, c0] at cs; cases cs
        have n1 : s ≠ d (i + 1) := fun q => by rw [q, c1] at cs; cases cs
        rw [fu_n _ _ (by omega), hv12, fu_n _ _ (by omega)]; exact vc s hs cs
      · rw [fu_n _ _ (by omega), hv12, fu_n _ _ (by omega)]; exact va a ha
  have loop1 : ∀ (r i : Nat) (τ : ZM) (v : Int → Int), i + r = 8 → Ou 153 168 σ τ → WN τ v → (∀ s : Nat, s < i → v (153 + 2 * (s : Int)) = 0) → (∀ a : Int, a < 153 ∨ 168 < a → v a = w a) → Z X (rX0_takeWeights zN) mX0_takeWeights 2 [(2, 141), (2, 11), (2, 16), (0, (i : Int)), (9, 0), (9, 0)] [] zN τ (zQv T) := by
    intro r
    induction r with
    | zero =>
      intro i τ v hi oo n vs va
      have : i = 8 := by omega
      subst this
      have d0 := cd.2.2.1 0 (by omega)
      have d00 : σ 12 0 = ((d 0 : Nat) : Int) := d0.1
      have dd := d8 0 (by omega)
      refine bk_X0_takeWeights_2 ⟨by decide, fun _ => ?_, fun q => absurd (by decide) q⟩
      rw [oo 12 (by decide), d00, oo 142 (by decide), h142 _ (by omega) (by omega)]
      refine ⟨n.1, by omega, by omega, la_w (by omega) (by omega), w_copy (la_w (by omega) (by omega)) la_147 (by omega) n (fun σ7 o7 n7 => ?_)⟩
      refine loop2 u 0 σ7 _ (by omega) (oo.trans (Ou.ofW o7 (by omega) (by omega))) n7 (fun j hj => ?_) (fun s hs cs => ?_) (fun a ha => by rw [fu_n _ _ (by omega)]; exact va a ha)
      · have dj8 := d8 j hj
        by_cases j0 : j = 0
        · subst j0; rw [fu_s, if_pos rfl, va 147 (by decide), hB]; exact (Int.sub_zero _).symm
        · have ne0 : d j ≠ d 0 := fun q => j0 (o.2.1 j 0 hj (by omega) q)
          rw [fu_n _ _ (by omega), if_neg j0, if_neg (by omega)]; exact vs (d j) dj8
      · have c0 := (o.1 0 (by omega)).2
        have n0 : s ≠ d 0 := fun q => by rw [q, c0] at cs; cases cs
        rw [fu_n _ _ (by omega)]; exact vs s hs
    | succ r ih =>
      intro i τ v hi oo n vs va
      refine bk_X0_takeWeights_2 ⟨by constructor <;> omega, fun q => absurd q (by omega), fun _ => ?_⟩
      rw [oo 142 (by decide), h142 _ (by omega) (by omega)]
      refine ⟨n.1, by omega, by omega, la_w (by omega) (by omega), w_put (la_w (by omega) (by omega)) n (by decide) (by decide) (fun σ13 o13 n13 => ?_)⟩
      refine ih (i + 1) σ13 _ (by omega) (oo.trans (Ou.ofW o13 (by omega) (by omega))) n13 (fun s hs => ?_) (fun a ha => by rw [fu_n _ _ (by omega)]; exact va a ha)
      by_cases q : s = i
      · subst q; rw [fu_s]
      · rw [fu_n _ _ (by omega)]; exact vs s (by omega)
  exact bk_X0_takeWeights (loop1 8 0 σ w (by omega) Ou.rfl' hn (fun s hs => by omega) (fun _ _ => rfl))
