/-! a Whole at a: its size, its sign, its twelve parts (at a + 1) -/
def WF (σ : ZM) (a : Int) : Prop := 0 ≤ σ a 1 ∧ σ a 1 ≤ 12 ∧ dg (σ (a + 1)) 12 ∧ (∀ i : Int, σ a 1 ≤ i → i < 12 → σ (a + 1) i = 0) ∧ (0 < σ a 1 → σ (a + 1) (σ a 1 - 1) ≠ 0) ∧ (σ a 2 = -1 ∨ σ a 2 = 0 ∨ σ a 2 = 1) ∧ (σ a 2 = 0 ↔ σ a 1 = 0)
def wm (σ : ZM) (a : Int) : Int := dv (σ (a + 1)) 12
def wv (σ : ZM) (a : Int) : Int := σ a 2 * wm σ a
/-- at most the Whole at a has changed -/
def OnW (a : Int) (σ σ' : ZM) : Prop := ∀ c i : Int, ¬ (c = a ∧ (i = 1 ∨ i = 2)) → c ≠ a + 1 → σ' c i = σ c i
theorem OnW.rfl' {a : Int} {σ : ZM} : OnW a σ σ := fun _ _ _ _ => rfl
theorem OnW.trans {a : Int} {σ σ1 σ2 : ZM} (h1 : OnW a σ σ1) (h2 : OnW a σ1 σ2) : OnW a σ σ2 := fun c i h h' => (h2 c i h h').trans (h1 c i h h')
theorem OnW.up1 {a x : Int} {σ σ1 : ZM} (h : OnW a σ σ1) (i : Int) (hi : i = 1 ∨ i = 2) : OnW a σ (z_up σ1 a i x) := fun c j g g' => by
  rw [z_up_ne]
  · exact h c j g g'
  · by_cases hc : c = a
    · subst hc
      refine Or.inr (fun q => ?_)
      subst q
      exact g ⟨rfl, hi⟩
    · exact Or.inl hc
theorem OnW.upA {a i x : Int} {σ σ1 : ZM} (h : OnW a σ σ1) : OnW a σ (z_up σ1 (a + 1) i x) := fun c j g g' => by
  rw [z_up_ne _ (Or.inl g')]
  exact h c j g g'
theorem OnW.fix {a : Int} {σ σ' : ZM} (h : OnW a σ σ') (hl : z_l a = (9, 3)) (hf : Fix σ) : Fix σ' := by
  intro c k d hd
  rw [h c k]
  · exact hf c k d hd
  · rintro ⟨rfl, hk⟩
    rw [hl] at hd
    rcases hk with hk | hk
    · have : k = 1 := by omega
      subst this
      have e : z_off 9 1 = none := by decide +kernel
      rw [e] at hd; cases hd
    · have : k = 2 := by omega
      subst this
      have e : z_off 9 2 = none := by decide +kernel
      rw [e] at hd; cases hd
  · rintro rfl
    rw [zo_9_0 hl, z_off_arr (by decide)] at hd
    cases hd
theorem z_kne {a b : Int} (ha : z_l a = (9, 3)) (hb : z_l b = (9, 3)) : b ≠ a + 1 ∧ b + 1 ≠ a := by
  refine ⟨fun q => ?_, fun q => ?_⟩
  · subst q; rw [zo_9_0 ha] at hb; cases hb
  · subst q; rw [zo_9_0 hb] at ha; cases ha
theorem OnW.row {a b : Int} {σ σ' : ZM} (h : OnW a σ σ') (ha : z_l a = (9, 3)) (hb : z_l b = (9, 3)) (hab : b ≠ a) : σ' (b + 1) = σ (b + 1) := by
  funext i
  exact h _ _ (fun q => (z_kne ha hb).2 q.1) (by omega)
theorem OnW.fld {a b : Int} {σ σ' : ZM} (h : OnW a σ σ') (ha : z_l a = (9, 3)) (hb : z_l b = (9, 3)) (hab : b ≠ a) (i : Int) : σ' b i = σ b i := h _ _ (fun q => hab q.1) (z_kne ha hb).1
theorem OnW.wf {a b : Int} {σ σ' : ZM} (h : OnW a σ σ') (ha : z_l a = (9, 3)) (hb : z_l b = (9, 3)) (hab : b ≠ a) (hw : WF σ b) : WF σ' b := by
  unfold WF
  rw [h.row ha hb hab, h.fld ha hb hab, h.fld ha hb hab]
  exact hw
theorem OnW.val {a b : Int} {σ σ' : ZM} (h : OnW a σ σ') (ha : z_l a = (9, 3)) (hb : z_l b = (9, 3)) (hab : b ≠ a) : wv σ' b = wv σ b := by
  unfold wv wm
  rw [h.row ha hb hab, h.fld ha hb hab]
theorem WF.dr {σ : ZM} {a : Int} (h : WF σ a) {i : Int} (h0 : 0 ≤ i) (h1 : i < 12) : r32 (σ (a + 1) i) := by
  have := h.2.2.1 i h0 h1
  omega
theorem WF.s32 {σ : ZM} {a : Int} (h : WF σ a) : r32 (σ a 1) := by
  have := h.1
  have := h.2.1
  omega
theorem WF.g32 {σ : ZM} {a : Int} (h : WF σ a) : r32 (σ a 2) := by
  have := h.2.2.2.2.2.1
  omega
/-- the parts up to the size alone count -/
theorem WF.dvz {σ : ZM} {a : Int} (h : WF σ a) {m : Nat} (hm : m ≤ 12) (hs : σ a 1 ≤ m) : dv (σ (a + 1)) 12 = dv (σ (a + 1)) m := dv_zero hm (fun i h0 h1 => h.2.2.2.1 i (by omega) h1)
theorem WF.lt {σ : ZM} {a : Int} (h : WF σ a) {m : Nat} (hm : m ≤ 12) (hs : σ a 1 ≤ m) : 0 ≤ wm σ a ∧ wm σ a < pw m := by
  unfold wm
  rw [h.dvz hm hs]
  exact dv_rng (h.2.2.1.mono hm)
theorem WF.ge {σ : ZM} {a : Int} (h : WF σ a) {m : Nat} (hs : (m : Int) < σ a 1) : pw m ≤ wm σ a := by
  have h1 := h.1
  have h2 := h.2.1
  have h5 := h.2.2.2.2.1 (by omega)
  obtain ⟨k, hk⟩ : ∃ k : Nat, σ a 1 - 1 = k := ⟨(σ a 1 - 1).toNat, by omega⟩
  rw [hk] at h5
  have := dv_pos h.2.2.1 (k := k) (by omega) h5
  exact Int.le_trans (pw_mono (show m ≤ k by omega)) this
theorem WF.zero {σ : ZM} {a : Int} (h : WF σ a) : wm σ a = 0 ↔ σ a 1 = 0 := by
  constructor
  · intro q
    apply Classical.byContradiction
    intro w
    have := h.ge (m := 0) (by have := h.1; omega)
    rw [q] at this
    exact absurd this (by decide)
  · intro q
    have := h.lt (m := 0) (by decide) (by omega)
    rw [pw_0] at this
    omega
theorem WF.sgn {σ : ZM} {a : Int} (h : WF σ a) : (σ a 2 = 1 ↔ 0 < wv σ a) ∧ (σ a 2 = -1 ↔ wv σ a < 0) ∧ (σ a 2 = 0 ↔ wv σ a = 0) := by
  have h0 := (h.lt (m := 12) (Nat.le_refl _) h.2.1).1
  have h1 := h.zero
  have h2 := h.2.2.2.2.2.2
  unfold wv
  rcases h.2.2.2.2.2.1 with e | e | e <;> rw [e] at h2 ⊢ <;> omega
theorem WF.abs {σ : ZM} {a : Int} (h : WF σ a) : ((wv σ a).natAbs : Int) = wm σ a := by
  have h0 := (h.lt (m := 12) (Nat.le_refl _) h.2.1).1
  have h1 := h.zero
  have h2 := h.2.2.2.2.2.2
  unfold wv
  rcases h.2.2.2.2.2.1 with e | e | e <;> rw [e] at h2 ⊢ <;> omega
theorem c_clear {X : ZS} {n : Nat} {σ : ZM} {T : ZM → Prop} {a : Int} (hl : z_l a = (9, 3)) (hn : (a + 1).toNat ≤ n) (hp : σ a 0 = a + 1) (h1 : 0 ≤ σ a 1) (h2 : σ a 1 ≤ 12) (hz : ∀ i : Int, σ a 1 ≤ i → i < 12 → σ (a + 1) i = 0)
    (h : ∀ σ', OnW a σ σ' → σ' a 1 = 0 → σ' a 2 = σ a 2 → (∀ i : Int, 0 ≤ i → i < 12 → σ' (a + 1) i = 0) → T σ') : ZC X (rX9_clear n) mX9_clear [(2, a)] n σ (zQv T) := by
  have key : ∀ (k : Nat) (x : Int) (τ : ZM), 0 ≤ x → x + k = σ a 1 → OnW a σ τ → (∀ i : Int, τ a i = σ a i) → (∀ i : Int, 0 ≤ i → i < x → τ (a + 1) i = 0) → (∀ i : Int, x ≤ i → τ (a + 1) i = σ (a + 1) i) → Z X (rX9_clear n) mX9_clear 2 [(2, a), (0, x)] [] n τ (zQv T) := by
    intro k
    induction k with
    | zero =>
      intro x τ hx hk ho hs h0 hr
      refine bk_X9_clear_2 hl ⟨by omega, by constructor <;> omega, by rw [hs]; constructor <;> omega, fun _ => ?_, fun q => absurd (by rw [hs]; omega) q⟩
      refine h _ (ho.up1 1 (Or.inl rfl)) (z_up_same _ _ _ _) (by rw [z_up_ne _ (Or.inr (by decide)), hs]) (fun i hi hi2 => ?_)
      rw [z_up_far _ _ _ (by omega)]
      by_cases hix : i < x
      · exact h0 i hi hix
      · rw [hr i (by omega)]; exact hz i (by omega) hi2
    | succ k ih =>
      intro x τ hx hk ho hs h0 hr
      refine bk_X9_clear_2 hl ⟨by omega, by constructor <;> omega, by rw [hs]; constructor <;> omega, fun q => absurd q (by rw [hs]; omega), fun _ => ⟨by rw [hs]; exact hp, hn, hx, by omega, ?_⟩⟩
      refine ih (x + 1) _ (by omega) (by omega) ho.upA (fun i => by rw [z_up_far _ _ _ (by omega)]; exact hs i) (fun i hi hi2 => ?_) (fun i hi => ?_)
      · rw [z_up_row]
        by_cases hix : i = x
        · subst hix; exact fu_s _ _ _
        · rw [fu_n _ _ hix]; exact h0 i hi (by omega)
      · rw [z_up_row, fu_n _ _ (by omega)]; exact hr i (by omega)
  refine bk_X9_clear hl (key (σ a 1).toNat 0 σ (by omega) (by omega) OnW.rfl' (fun _ => rfl) (fun i hi hi2 => absurd hi2 (by omega)) (fun _ _ => rfl))
theorem c_trim {X : ZS} {n : Nat} {σ : ZM} {T : ZM → Prop} {a x g : Int} (hl : z_l a = (9, 3)) (hn : (a + 1).toNat ≤ n) (hp : σ a 0 = a + 1) (hd : dg (σ (a + 1)) 12) (hx : r32 x) (hz : ∀ i : Int, 0 ≤ i → x ≤ i → i < 12 → σ (a + 1) i = 0) (hg : g = -1 ∨ g = 0 ∨ g = 1) (hg0 : wm σ a ≠ 0 → g ≠ 0)
    (h : ∀ σ', OnW a σ σ' → WF σ' a → (∀ i, σ' (a + 1) i = σ (a + 1) i) → wv σ' a = g * wm σ a → T σ') : ZC X (rX9_trim n) mX9_trim [(2, a), (0, x), (0, g)] n σ (zQv T) := by
  have key : ∀ (s : Nat) (τ : ZM), s ≤ 12 → τ a 1 = s → OnW a σ τ → (∀ i : Int, τ (a + 1) i = σ (a + 1) i) → (∀ i : Int, s ≤ i → i < 12 → σ (a + 1) i = 0) → Z X (rX9_trim n) mX9_trim 24 [(2, a), (9, 0), (0, g)] [] n τ (zQv T) := by
    intro s
    induction s with
    | zero =>
      intro τ hs ht ho hr h0
      have hm : wm σ a = 0 := by
        unfold wm
        exact dv_zero (m := 0) (by decide) (fun i hi hi2 => h0 i hi hi2)
      refine bk_X9_trim_24 hl ⟨by omega, by rw [ht]; exact ⟨by decide, by decide⟩, fun _ => ⟨fun q => absurd ht q, fun _ => ?_⟩, fun q => absurd (by rw [ht]; decide) q⟩
      have e1 : z_up τ a 2 0 (a + 1) = σ (a + 1) := by
        rw [z_up_far _ _ _ (by omega)]
        funext i; exact hr i
      have e2 : z_up τ a 2 0 a 1 = 0 := by rw [z_up_ne _ (Or.inr (by decide)), ht]; rfl
      have e3 : z_up τ a 2 0 a 2 = 0 := z_up_same _ _ _ _
      refine h _ (ho.up1 2 (Or.inr rfl)) ?_ (fun i => by rw [e1]) ?_
      · unfold WF
        rw [e1, e2, e3]
        exact ⟨by decide, by decide, hd, fun i h1 h2 => h0 i h1 h2, fun q => absurd q (by decide), Or.inr (Or.inl rfl), Iff.rfl⟩
      · unfold wv
        rw [e3, hm, Int.zero_mul, Int.mul_zero]
    | succ s ih =>
      intro τ hs ht ho hr h0
      have e0 : ((s + 1 : Nat) : Int) - 1 = s := by omega
      refine bk_X9_trim_24 hl ⟨by omega, by rw [ht]; constructor <;> omega, fun q => absurd q (by rw [ht]; omega), fun _ => ⟨?_, hn, by rw [ht]; omega, by rw [ht]; omega, ?_, ?_, ?_⟩⟩
      · rw [ho a 0 (by omega) (by omega)]; exact hp
      · rw [hr, ht, e0]
        have := hd s (by omega) (by omega)
        constructor <;> omega
      · intro hne
        rw [hr, ht, e0] at hne
        refine ⟨fun _ => ?_, fun q => absurd q (by rw [ht]; omega)⟩
        have e1 : z_up τ a 2 g (a + 1) = σ (a + 1) := by
          rw [z_up_far _ _ _ (by omega)]
          funext i; exact hr i
        have e2 : z_up τ a 2 g a 1 = ((s + 1 : Nat) : Int) := by rw [z_up_ne _ (Or.inr (by decide)), ht]
        have e3 : z_up τ a 2 g a 2 = g := z_up_same _ _ _ _
        have hm : wm σ a ≠ 0 := by
          have h1 := dv_pos hd (k := s) (by omega) hne
          have h2 := pw_pos s
          unfold wm
          omega
        refine h _ (ho.up1 2 (Or.inr rfl)) ?_ (fun i => by rw [e1]) ?_
        · unfold WF
          rw [e1, e2, e3]
          refine ⟨by omega, by omega, hd, fun i h1 h2 => h0 i h1 h2, fun _ => by rw [e0]; exact hne, hg, ⟨fun q => absurd q (hg0 hm), fun q => absurd q (by omega)⟩⟩
        · unfold wv wm
          rw [e3, e1]
      · intro he
        rw [hr, ht, e0] at he
        rw [ht, e0]
        refine ih _ (by omega) (z_up_same _ _ _ _) (ho.up1 1 (Or.inl rfl)) (fun i => by rw [z_up_far _ _ _ (by omega)]; exact hr i) (fun i h1 h2 => ?_)
        by_cases hi : i = s
        · subst hi; exact he
        · exact h0 i (by omega) h2
  have fin : ∀ s : Nat, s ≤ 12 → (∀ i : Int, s ≤ i → i < 12 → σ (a + 1) i = 0) → Z X (rX9_trim n) mX9_trim 24 [(2, a), (9, 0), (0, g)] [] n (z_up σ a 1 s) (zQv T) := fun s hs h0 =>
    key s _ hs (z_up_same _ _ _ _) (OnW.rfl'.up1 1 (Or.inl rfl)) (fun i => by rw [z_up_far _ _ _ (by omega)]) h0
  refine bk_X9_trim hl ⟨hx, fun h0 => ⟨fun h1 => ⟨by omega, ?_⟩, fun h1 => ⟨by omega, ?_⟩⟩, fun h0 => ⟨by omega, ?_⟩⟩
  · have := fin x.toNat (by omega) (fun i g1 g2 => hz i (by omega) (by omega) g2)
    rwa [Int.toNat_of_nonneg h0] at this
  · exact fin 12 (by omega) (fun i g1 g2 => absurd g2 (by omega))
  · exact fin 0 (by omega) (fun i g1 g2 => hz i g1 (by omega) g2)
theorem c_put {X : ZS} {n : Nat} {σ : ZM} {T : ZM → Prop} {a x : Int} (hl : z_l a = (9, 3)) (hn : (a + 1).toNat ≤ n) (hp : σ a 0 = a + 1) (h1 : 0 ≤ σ a 1) (h2 : σ a 1 ≤ 12) (hz : ∀ i : Int, σ a 1 ≤ i → i < 12 → σ (a + 1) i = 0) (hx : r64 x) (hm : x ≠ -9223372036854775808)
    (h : ∀ σ', OnW a σ σ' → WF σ' a → wv σ' a = x → T σ') : ZC X (rX9_put n) mX9_put [(2, a), (1, x)] n σ (zQv T) := by
  have key : ∀ (k i : Nat) (y : Int) (τ : ZM), i + k = 3 → OnW a σ τ → dg (τ (a + 1)) 12 → (∀ j : Int, i ≤ j → j < 12 → τ (a + 1) j = 0) → (x.natAbs : Int) = dv (τ (a + 1)) i + y.natAbs * pw i → r64 y → Z X (rX9_put n) mX9_put 9 [(2, a), (1, x), (9, 0), (1, y), (9, 0), (0, (i : Int))] [] n τ (zQv T) := by
    intro k
    have fin : ∀ (i : Nat) (τ : ZM), i ≤ 3 → OnW a σ τ → dg (τ (a + 1)) 12 → (∀ j : Int, i ≤ j → j < 12 → τ (a + 1) j = 0) → (x.natAbs : Int) = dv (τ (a + 1)) i → ZC X (rX9_trim n) mX9_trim [(2, a), (0, 3), (0, (if x < 0 then -1 else if 0 < x then 1 else 0))] n τ (zQv T) := by
      intro i τ hi ho hd h0 he
      have hw : wm τ a = x.natAbs := by
        unfold wm
        rw [he]
        exact dv_zero (by omega) h0
      refine c_trim hl hn (by rw [ho a 0 (by omega) (by omega)]; exact hp) hd ⟨by decide, by decide⟩ (fun j g1 g2 g3 => h0 j (by omega) g3) (by split; exact Or.inl rfl; split; exact Or.inr (Or.inr rfl); exact Or.inr (Or.inl rfl)) (fun q => ?_) (fun σ' ho2 hwf hr hv => h σ' (ho.trans ho2) hwf ?_)
      · rw [hw] at q
        split
        · decide
        · split
          · decide
          · omega
      · rw [hv, hw]
        split
        · omega
        · split <;> omega
    induction k with
    | zero =>
      intro i y τ hi ho hd h0 he hy
      have hi3 : i = 3 := by omega
      subst hi3
      have hy0 : y = 0 := by
        have g1 := (dv_rng (hd.mono (show 3 ≤ 12 by decide))).1
        have g2 : pw 3 = 1000000000000000000000000000 := by decide
        rw [g2] at he
        have := hx.1
        have := hx.2
        omega
      subst hy0
      refine bk_X9_put_9 hl ⟨by constructor <;> omega, fun _ => ⟨hx, hm, by omega, ?_⟩, fun q => absurd (by omega) q⟩
      exact fin 3 τ (by omega) ho hd h0 (by simpa using he)
    | succ k ih =>
      intro i y τ hi ho hd h0 he hy
      refine bk_X9_put_9 hl ⟨by constructor <;> omega, fun q => absurd q (by omega), fun _ => ⟨hy, fun q => ⟨hx, hm, by omega, ?_⟩, fun q => ⟨by omega, by rw [ho a 0 (by omega) (by omega)]; exact hp, ?_, ?_, hn, by omega, by omega, ?_⟩⟩⟩
      · subst q
        exact fin i τ (by omega) ho hd h0 (by simpa using he)
      all_goals
        have hq : (y.tdiv 1000000000).natAbs = y.natAbs / 1000000000 := by rw [Int.natAbs_tdiv]; rfl
        have hr : (y.tmod 1000000000).natAbs = y.natAbs % 1000000000 := by rw [Int.natAbs_tmod]; rfl
        have hy1 := hy.1
        have hy2 := hy.2
      · constructor <;> omega
      · omega
      · have := ih (i + 1) (y.tdiv 1000000000) (z_up τ (a + 1) i (((y.tmod 1000000000).natAbs : Nat) : Int)) (by omega) ho.upA ?_ (fun j g1 g2 => ?_) ?_ (by constructor <;> omega)
        · exact this
        · rw [z_up_row]; exact dg_fu hd (by omega) (by omega)
        · rw [z_up_row, fu_n _ _ (by omega)]; exact h0 j (by omega) g2
        · rw [z_up_row, dv_s, dv_fu_out (Int.le_refl _), fu_s, pw_s, he, hq, hr]
          have e : (y.natAbs : Int) = ((y.natAbs / 1000000000 : Nat) : Int) * 1000000000 + ((y.natAbs % 1000000000 : Nat) : Int) := by omega
          rw [e, Int.add_mul, Int.mul_assoc ((y.natAbs / 1000000000 : Nat) : Int) 1000000000 (pw i), Int.mul_comm 1000000000 (pw i)]
          have e2 : ((((y.natAbs / 1000000000 : Nat) : Int) * 1000000000 + ((y.natAbs % 1000000000 : Nat) : Int)).natAbs : Int) = ((y.natAbs / 1000000000 : Nat) : Int) * 1000000000 + ((y.natAbs % 1000000000 : Nat) : Int) := by omega
          omega
  refine bk_X9_put hl ⟨by omega, c_clear hl hn hp h1 h2 hz (fun σ' ho g1 g2 g3 => ?_)⟩
  refine key 3 0 x σ' (by omega) ho (fun i q1 q2 => by rw [g3 i q1 q2]; decide) (fun j q1 q2 => g3 j q1 q2) ?_ hx
  show _ = (0 : Int) + _ * 1
  omega
/-- put, of a Whole as the calls keep it -/
theorem c_putW {X : ZS} {σ : ZM} {T : ZM → Prop} {a x : Int} (hl : z_l a = (9, 3)) (hf : Fix σ) (hw : WF σ a) (hx : r64 x) (hm : x ≠ -9223372036854775808) (h : ∀ σ', OnW a σ σ' → WF σ' a → wv σ' a = x → T σ') : ZC X (rX9_put zN) mX9_put [(2, a), (1, x)] zN σ (zQv T) :=
  c_put hl (z_leN (zo_9_0 hl) (by decide)) (hf.get hl 0 1 (by decide +kernel)) hw.1 hw.2.1 hw.2.2.2.1 hx hm h
theorem c_lowest {X : ZS} {σ : ZM} {T : Int → ZM → Prop} {a : Int} (hl : z_l a = (9, 3)) (hf : Fix σ) (hw : WF σ a) (h : T (σ a 2 * σ (a + 1) 0) σ) : ZC X (rX9_lowest zN) mX9_lowest [(2, a)] zN σ (zQl T) :=
  bk_X9_lowest hl ⟨hw.g32, hf, hw.dr (by decide) (by decide), h⟩
/-- a Whole of one part at most: its lowest part with the sign is the number -/
theorem WF.low {σ : ZM} {a : Int} (h : WF σ a) (hs : σ a 1 < 2) : wv σ a = σ a 2 * σ (a + 1) 0 := by
  unfold wv wm
  rw [h.dvz (m := 1) (by decide) (by omega), dv_s]
  show σ a 2 * (0 + σ (a + 1) 0 * 1) = _
  rw [Int.zero_add, Int.mul_one]
