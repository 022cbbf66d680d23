def o_cap (α : ZM) (a b : Int) : Int := if ¬ ((1 ≤ a ∧ a ≤ 100) ∧ 1 ≤ b ∧ b ≤ 8000) then -4 else if α 0 1 = 6 then -8 else α 0 1
def s_cap (α : ZM) (a b : Int) : ZM := if 0 ≤ o_cap α a b then lw_add α (fun w => min (a * w) b) else α
theorem ab_r {a w : Int} (a1 : 1 ≤ a) (a2 : a ≤ 100) (w0 : 0 ≤ w) (w1 : w ≤ 80) : 0 ≤ a * w ∧ a * w ≤ 8000 :=
  ⟨Int.mul_nonneg (by omega) w0, by have := Int.mul_le_mul a2 w1 w0 (by decide); omega⟩
theorem ok_cap {α : ZM} {a b : Int} (ok : Ok α) : Ok (s_cap α a b) := by
  unfold s_cap
  split
  · rename_i h
    unfold o_cap at h
    have hl := ok.l
    split at h
    · omega
    · rename_i q
      split at h
      · omega
      · refine ok_add ok (by omega) (fun w w0 w1 => ?_)
        have := ab_r (a := a) (by omega) (by omega) w0 w1
        show (0 ≤ min (a * w) b ∧ min (a * w) b ≤ 16000) ∧ (w = 0 → min (a * w) b = 0)
        refine ⟨by omega, fun e => ?_⟩
        subst e; omega
  · exact ok
theorem c_isFull {X : ZS} {σ α : ZM} {T : Bool → ZM → Prop} (h6 : σ 6 1 = α 0 1) (ok : Ok α) (h1 : α 0 1 = 6 → T true σ) (h0 : α 0 1 < 6 → T false σ) : ZC X (rX5_isFull zN) mX5_isFull [(2, 6)] zN σ (zQz T) := by
  have := ok.l
  exact bk_X5_isFull ⟨by rw [h6]; constructor <;> omega, fun q => h0 (by omega), fun q => h1 (by omega)⟩
theorem c_draft {X : ZS} {σ α : ZM} {T : ZM → Prop} {w v : Int} (hf : Fix σ) (h6 : σ 6 1 = α 0 1) (ok : Ok α) (l6 : α 0 1 < 6) (w0 : 1 ≤ w) (w1 : w ≤ 80) (h : T (z_up σ 7 (α 0 1 * 81 + w) v)) : ZC X (rX5_draft zN) mX5_draft [(2, 6), (0, w), (0, v)] zN σ (zQv T) := by
  have := ok.l
  refine bk_X5_draft (c_isFull h6 ok (fun q => absurd q (by omega)) (fun _ => ⟨fun q => (by cases q), fun _ => ⟨by constructor <;> omega, fun q => absurd q (by omega), fun _ => ⟨fun q => absurd q (by omega), fun _ => ⟨hf, by rw [h6]; omega, by rw [h6]; omega, ?_⟩⟩⟩⟩))
  rw [h6]; exact h
theorem c_keep {X : ZS} {σ α : ZM} {T : Int → ZM → Prop} (h6 : σ 6 1 = α 0 1) (ok : Ok α) (l6 : α 0 1 < 6) (h : T (α 0 1) (z_up σ 6 1 (α 0 1 + 1))) : ZC X (rX5_keepDraft zN) mX5_keepDraft [(2, 6)] zN σ (zQi T) := by
  refine bk_X5_keepDraft (c_isFull h6 ok (fun q => absurd q (by omega)) (fun _ => ⟨fun _ => ?_, fun q => (by cases q)⟩))
  rw [h6, show α 0 1 + 1 - 1 = α 0 1 by omega]; exact h
theorem b_cap {X : ZS} {σ α : ZM} {T : Int → ZM → Prop} {a b : Int} (ha : r32 a) (hb : r32 b) (cs : CS σ α) (ok : Ok α) (h : ∀ σ', Ou 1 210 σ σ' → CS σ' (s_cap α a b) → T (o_cap α a b) σ') : ZC X (rX11_addSloped zN) mX11_addSloped [(2, 1), (0, a), (0, b)] zN σ (zQi T) := by
  have hf := cs.fix
  have hl := ok.l
  have cw := cs.2.2.2.1
  have bad : ∀ e, o_cap α a b = e → e < 0 → T e σ := fun e he q => by
    unfold s_cap at h; rw [he, if_neg (by omega)] at h; exact h σ Ou.rfl' cs
  refine bk_X11_addSloped (c_isWithin ha (by decide) (by decide) (fun a1 a2 => ⟨fun q => (by cases q), fun _ => c_isWithin hb (by decide) (by decide) (fun b1 b2 => ⟨fun _ => ⟨hf, ?_⟩, fun q => (by cases q)⟩) (fun q => ⟨fun q => (by cases q), fun _ => bad (-4) (by unfold o_cap; rw [if_pos (fun w => q w.2)]) (by decide)⟩)⟩) (fun q => ⟨fun _ => bad (-4) (by unfold o_cap; rw [if_pos (fun w => q w.1)]) (by decide), fun q => (by cases q)⟩))
  have inr : ¬ ¬ ((1 ≤ a ∧ a ≤ 100) ∧ 1 ≤ b ∧ b ≤ 8000) := fun q => q ⟨⟨a1, a2⟩, b1, b2⟩
  refine c_isFull cw.1 ok (fun l6 => ⟨fun q => (by cases q), fun _ => bad (-8) (by unfold o_cap; rw [if_neg inr, if_pos l6]) (by decide)⟩) (fun l6 => ⟨fun _ => ⟨hf, ?_⟩, fun q => (by cases q)⟩)
  have eo : o_cap α a b = α 0 1 := by unfold o_cap; rw [if_neg inr, if_neg (by omega)]
  unfold s_cap at h
  rw [eo, if_pos hl.1] at h
  have loop : ∀ (l : Nat) (w : Int) (τ : ZM), 1 ≤ w → w + l = 81 → Fix τ → (∀ c : Int, c ≠ 7 → τ c = σ c) → (∀ t : Int, t < α 0 1 * 81 → τ 7 t = σ 7 t) → (∀ v : Int, 1 ≤ v → v < w → τ 7 (α 0 1 * 81 + v) = min (a * v) b) → Z X (rX5_draftSlope zN) mX5_draftSlope 2 [(2, 6), (0, a), (0, b), (0, w)] [] zN τ (zQv (fun σ10 => (Fix σ10) ∧ ZC X (rX5_keepDraft zN) mX5_keepDraft [(2, 6)] zN σ10 (zQi (fun r12 σ13 => T r12 σ13)))) := by
    intro l
    induction l with
    | zero =>
      intro w τ w0 hw f o o7 v7
      have : w = 81 := by omega
      subst this
      have t6 : τ 6 1 = α 0 1 := by rw [o 6 (by decide), cw.1]
      refine bk_X5_draftSlope_2 ⟨by decide, fun _ => ⟨f, c_keep t6 ok l6 ?_⟩, fun q => absurd (by decide) q⟩
      refine h _ (fun c hc => by rw [z_up_far _ _ _ (by omega)]; exact o c (by omega)) (cs.law (f.upF la_6 1 (by decide +kernel)) (fun c _ c6 c7 => by rw [z_up_far _ _ _ c6]; exact o c c7) (z_up_same _ _ _ _) (fun l w l0 l1 w0 w1 => ?_) (fun w w0 w1 => ?_))
      · rw [z_up_far _ _ _ (by decide)]; exact o7 _ (by omega)
      · rw [z_up_far _ _ _ (by decide)]; exact v7 w w0 (by omega)
    | succ l ih =>
      intro w τ w0 hw f o o7 v7
      have t6 : τ 6 1 = α 0 1 := by rw [o 6 (by decide), cw.1]
      have ab := ab_r a1 a2 (w := w) (by omega) (by omega)
      refine bk_X5_draftSlope_2 ⟨by constructor <;> omega, fun q => absurd q (by omega), fun _ => ⟨by constructor <;> omega, hb, c_draft f t6 ok l6 w0 (by omega) ?_⟩⟩
      refine ih (w + 1) _ (by omega) (by omega) (f.upA la_7 (by decide)) (fun c c7 => by rw [z_up_far _ _ _ c7]; exact o c c7) (fun t ht => ?_) (fun v v0 v1 => ?_)
      · rw [z_up_row, fu_n _ _ (by omega)]; exact o7 t ht
      · rw [z_up_row]
        by_cases q : v = w
        · subst q; rw [fu_s]
        · rw [fu_n _ _ (by omega)]; exact v7 v v0 (by omega)
  exact bk_X5_draftSlope (loop 80 1 σ (by decide) (by decide) hf (fun _ _ => rfl) (fun _ _ => rfl) (fun v v0 v1 => by omega))
theorem m_cap {X : ZS} {σ α : ZM} {T : Int → ZM → Prop} {a b : Int} (ha : r32 a) (hb : r32 b) (ms : MS σ α) (ok : Ok α) (h : ∀ σ', Ou 211 229 σ σ' → MS σ' (s_cap α a b) → T (o_cap α a b) σ') : ZC X (rX12_capped zN) mX12_capped [(2, 211), (0, a), (0, b)] zN σ (zQi T) := by
  have hf := ms.fix
  have hl := ok.l
  have mw := ms.2.2.2.1
  have bad : ∀ e, o_cap α a b = e → e < 0 → T e σ := fun e he q => by
    unfold s_cap at h; rw [he, if_neg (by omega)] at h; exact h σ Ou.rfl' ms
  have no4 : ¬ ((1 ≤ a ∧ a ≤ 100) ∧ 1 ≤ b ∧ b ≤ 8000) → T (-4) σ := fun q => bad (-4) (by unfold o_cap; rw [if_pos q]) (by decide)
  refine bk_X12_capped ⟨ha, fun q => no4 (by omega), fun a1 => ⟨fun q => no4 (by omega), fun a2 => ⟨hb, fun q => no4 (by omega), fun b1 => ⟨fun b2 => ⟨by rw [mw.1]; constructor <;> omega, fun q => ?_, fun q => bad (-8) (by unfold o_cap; rw [if_neg (by omega), if_pos (by rw [← mw.1]; exact q)]) (by decide)⟩, fun q => no4 (by omega)⟩⟩⟩⟩
  have l6 : α 0 1 < 6 := by have := mw.1; omega
  have eo : o_cap α a b = α 0 1 := by unfold o_cap; rw [if_neg (by omega), if_neg (by omega)]
  unfold s_cap at h
  rw [eo, if_pos hl.1] at h
  have loop : ∀ (l : Nat) (w : Int) (τ : ZM), 0 ≤ w → w + l = 81 → Fix τ → (∀ c : Int, c ≠ 220 → τ c = σ c) → (∀ t : Int, t < 81 * α 0 1 → τ 220 t = σ 220 t) → (∀ v : Int, 0 ≤ v → v < w → τ 220 (81 * α 0 1 + v) = min (a * v) b) → Z X (rX12_capped zN) mX12_capped 40 [(2, 211), (0, a), (0, b), (0, w)] [] zN τ (zQi T) := by
    intro l
    induction l with
    | zero =>
      intro w τ w0 hw f o o7 v7
      have : w = 81 := by omega
      subst this
      have t9 : τ 211 9 = α 0 1 := by rw [o 211 (by decide), mw.1]
      refine bk_X12_capped_40 ⟨by decide, fun _ => ?_, fun q => absurd (by decide) q⟩
      rw [t9, show α 0 1 + 1 - 1 = α 0 1 by omega]
      refine h _ (fun c hc => by rw [z_up_far _ _ _ (by omega)]; exact o c (by omega)) (ms.law (f.upF la_211 9 (by decide +kernel)) (fun c c1 c2 _ => by rw [z_up_far _ _ _ c1]; exact o c c2) (fun i i9 => by rw [z_up_ne _ (Or.inr i9), o 211 (by decide)]) (z_up_same _ _ _ _) (fun l w l0 l1 w0 w1 => ?_) (fun w w0 w1 => ?_))
      · rw [z_up_far _ _ _ (by decide)]; exact o7 _ (by omega)
      · rw [z_up_far _ _ _ (by decide)]; exact v7 w w0 (by omega)
    | succ l ih =>
      intro w τ w0 hw f o o7 v7
      have t9 : τ 211 9 = α 0 1 := by rw [o 211 (by decide), mw.1]
      have ab := ab_r (a := a) (by omega) (by omega) (w := w) (by omega) (by omega)
      have nx : ∀ x, x = min (a * w) b → Z X (rX12_capped zN) mX12_capped 40 [(2, 211), (0, a), (0, b), (0, (w + 1))] [] zN (z_up τ 220 (81 * α 0 1 + w) x) (zQi T) := fun x hx => by
        refine ih (w + 1) _ (by omega) (by omega) (f.upA la_220 (by decide)) (fun c c7 => by rw [z_up_far _ _ _ c7]; exact o c c7) (fun t ht => ?_) (fun v v0 v1 => ?_)
        · rw [z_up_row, fu_n _ _ (by omega)]; exact o7 t ht
        · rw [z_up_row]
          by_cases q : v = w
          · subst q; rw [fu_s, hx]
          · rw [fu_n _ _ (by omega)]; exact v7 v v0 (by omega)
      refine bk_X12_capped_40 ⟨by constructor <;> omega, fun q => absurd q (by omega), fun _ => ⟨f, by constructor <;> omega, hb, fun q => ?_, fun q => ?_⟩⟩
      · rw [t9]; exact ⟨by omega, by omega, nx b (by omega)⟩
      · rw [t9]; exact ⟨by omega, by omega, nx (a * w) (by omega)⟩
  exact loop 81 0 σ (Int.le_refl _) (by decide) hf (fun _ _ => rfl) (fun _ _ => rfl) (fun v v0 v1 => by omega)
theorem m_straight {X : ZS} {σ α : ZM} {T : Int → ZM → Prop} {a : Int} (ha : r32 a) (ms : MS σ α) (ok : Ok α) (h : ∀ σ', Ou 211 229 σ σ' → MS σ' (s_cap α a 8000) → T (o_cap α a 8000) σ') : ZC X (rX12_straight zN) mX12_straight [(2, 211), (0, a)] zN σ (zQi T) := by
  have hf := ms.fix
  have hl := ok.l
  have mw := ms.2.2.2.1
  have bad : ∀ e, o_cap α a 8000 = e → e < 0 → T e σ := fun e he q => by
    unfold s_cap at h; rw [he, if_neg (by omega)] at h; exact h σ Ou.rfl' ms
  have no4 : ¬ ((1 ≤ a ∧ a ≤ 100) ∧ (1 : Int) ≤ 8000 ∧ (8000 : Int) ≤ 8000) → T (-4) σ := fun q => bad (-4) (by unfold o_cap; rw [if_pos q]) (by decide)
  refine bk_X12_straight ⟨ha, fun q => no4 (by omega), fun a1 => ⟨fun a2 => ⟨by rw [mw.1]; constructor <;> omega, fun q => ?_, fun q => bad (-8) (by unfold o_cap; rw [if_neg (by omega), if_pos (by rw [← mw.1]; exact q)]) (by decide)⟩, fun q => no4 (by omega)⟩⟩
  have l6 : α 0 1 < 6 := by have := mw.1; omega
  have eo : o_cap α a 8000 = α 0 1 := by unfold o_cap; rw [if_neg (by omega), if_neg (by omega)]
  unfold s_cap at h
  rw [eo, if_pos hl.1] at h
  have loop : ∀ (l : Nat) (w : Int) (τ : ZM), 0 ≤ w → w + l = 81 → Fix τ → (∀ c : Int, c ≠ 220 → τ c = σ c) → (∀ t : Int, t < 81 * α 0 1 → τ 220 t = σ 220 t) → (∀ v : Int, 0 ≤ v → v < w → τ 220 (81 * α 0 1 + v) = min (a * v) 8000) → Z X (rX12_straight zN) mX12_straight 28 [(2, 211), (0, a), (0, w)] [] zN τ (zQi T) := by
    intro l
    induction l with
    | zero =>
      intro w τ w0 hw f o o7 v7
      have : w = 81 := by omega
      subst this
      have t9 : τ 211 9 = α 0 1 := by rw [o 211 (by decide), mw.1]
      refine bk_X12_straight_28 ⟨by decide, fun _ => ?_, fun q => absurd (by decide) q⟩
      rw [t9, show α 0 1 + 1 - 1 = α 0 1 by omega]
      refine h _ (fun c hc => by rw [z_up_far _ _ _ (by omega)]; exact o c (by omega)) (ms.law (f.upF la_211 9 (by decide +kernel)) (fun c c1 c2 _ => by rw [z_up_far _ _ _ c1]; exact o c c2) (fun i i9 => by rw [z_up_ne _ (Or.inr i9), o 211 (by decide)]) (z_up_same _ _ _ _) (fun l w l0 l1 w0 w1 => ?_) (fun w w0 w1 => ?_))
      · rw [z_up_far _ _ _ (by decide)]; exact o7 _ (by omega)
      · rw [z_up_far _ _ _ (by decide)]; exact v7 w w0 (by omega)
    | succ l ih =>
      intro w τ w0 hw f o o7 v7
      have t9 : τ 211 9 = α 0 1 := by rw [o 211 (by decide), mw.1]
      have ab := ab_r (a := a) (by omega) (by omega) (w := w) (by omega) (by omega)
      refine bk_X12_straight_28 ⟨by constructor <;> omega, fun q => absurd q (by omega), fun _ => ⟨f, by rw [t9]; omega, by rw [t9]; omega, ?_⟩⟩
      rw [t9]
      refine ih (w + 1) _ (by omega) (by omega) (f.upA la_220 (by decide)) (fun c c7 => by rw [z_up_far _ _ _ c7]; exact o c c7) (fun t ht => ?_) (fun v v0 v1 => ?_)
      · rw [z_up_row, fu_n _ _ (by omega)]; exact o7 t ht
      · rw [z_up_row]
        by_cases q : v = w
        · subst q; rw [fu_s]; omega
        · rw [fu_n _ _ (by omega)]; exact v7 v v0 (by omega)
  exact loop 81 0 σ (Int.le_refl _) (by decide) hf (fun _ _ => rfl) (fun _ _ => rfl) (fun v v0 v1 => by omega)
/-! sum -/
def fitb (f : Int → Int) : Nat → Bool
  | 0 => true
  | n + 1 => fitb f n && decide (f n ≤ 16000)
theorem fitb_iff {f : Int → Int} : ∀ {n : Nat}, fitb f n = true ↔ ∀ i : Int, 0 ≤ i → i < n → f i ≤ 16000
  | 0 => ⟨fun _ i h0 h1 => by omega, fun _ => rfl⟩
  | n + 1 => by
    show (fitb f n && decide (f n ≤ 16000)) = true ↔ _
    rw [Bool.and_eq_true, fitb_iff, decide_eq_true_iff]
    constructor
    · rintro ⟨h1, h2⟩ i i0 i1
      by_cases w : i = n
      · subst w; exact h2
      · exact h1 i i0 (by omega)
    · intro h
      exact ⟨fun i i0 i1 => h i i0 (by omega), h n (by omega) (by omega)⟩
def sm2 (α : ZM) (a b : Int) : Int → Int := fun w => α 5 (81 * a + w) + α 5 (81 * b + w)
def o_sum (α : ZM) (a b : Int) : Int := if ¬ ((0 ≤ a ∧ a < α 0 1) ∧ 0 ≤ b ∧ b < α 0 1) then -2 else if α 0 1 = 6 then -8 else if fitb (sm2 α a b) 81 then α 0 1 else -4
def s_sum (α : ZM) (a b : Int) : ZM := if 0 ≤ o_sum α a b then lw_add α (sm2 α a b) else α
theorem ok_sum {α : ZM} {a b : Int} (ok : Ok α) : Ok (s_sum α a b) := by
  unfold s_sum
  split
  · rename_i h
    unfold o_sum at h
    have hl := ok.l
    split at h
    · omega
    · rename_i q
      split at h
      · omega
      · split at h
        · rename_i q2
          refine ok_add ok (by omega) (fun w w0 w1 => ?_)
          have f := fitb_iff.mp q2 w w0 (by omega)
          have x1 := ok.w a w (by omega) (by omega) w0 w1
          have x2 := ok.w b w (by omega) (by omega) w0 w1
          refine ⟨⟨?_, f⟩, fun e => ?_⟩
          · show 0 ≤ α 5 (81 * a + w) + α 5 (81 * b + w); omega
          · show α 5 (81 * a + w) + α 5 (81 * b + w) = 0
            rw [x1.2 e, x2.2 e]; rfl
        · omega
  · exact ok
theorem b_sum {X : ZS} {σ α : ZM} {T : Int → ZM → Prop} {a b : Int} (ha : r32 a) (hb : r32 b) (cs : CS σ α) (ok : Ok α) (h : ∀ σ', Ou 1 210 σ σ' → CS σ' (s_sum α a b) → T (o_sum α a b) σ') : ZC X (rX11_sum zN) mX11_sum [(2, 1), (0, a), (0, b)] zN σ (zQi T) := by
  have hf := cs.fix
  have hl := ok.l
  have cw := cs.2.2.2.1
  have bad : ∀ σ', Ou 1 210 σ σ' → CS σ' α → ∀ e, o_sum α a b = e → e < 0 → T e σ' := fun σ' o c e he q => by
    unfold s_sum at h; rw [he, if_neg (by omega)] at h; exact h σ' o c
  refine bk_X11_sum ⟨hf, c_lhas ha cw ok (fun a0 a1 => ⟨fun q => (by cases q), fun _ => ⟨hf, c_lhas hb cw ok (fun b0 b1 => ⟨fun _ => ⟨hf, ?_⟩, fun q => (by cases q)⟩) (fun q => ⟨fun q => (by cases q), fun _ => bad σ Ou.rfl' cs (-2) (by unfold o_sum; rw [if_pos (fun w => q w.2)]) (by decide)⟩)⟩⟩) (fun q => ⟨fun _ => bad σ Ou.rfl' cs (-2) (by unfold o_sum; rw [if_pos (fun w => q w.1)]) (by decide), fun q => (by cases q)⟩)⟩
  have inr : ¬ ¬ ((0 ≤ a ∧ a < α 0 1) ∧ 0 ≤ b ∧ b < α 0 1) := fun q => q ⟨⟨a0, a1⟩, b0, b1⟩
  refine c_isFull cw.1 ok (fun l6 => ⟨fun q => (by cases q), fun _ => bad σ Ou.rfl' cs (-8) (by unfold o_sum; rw [if_neg inr, if_pos l6]) (by decide)⟩) (fun l6 => ⟨fun _ => ⟨hf, ?_⟩, fun q => (by cases q)⟩)
  have loop : ∀ (l : Nat) (w : Int) (τ : ZM), 1 ≤ w → w + l = 81 → Fix τ → (∀ c : Int, c ≠ 7 → τ c = σ c) → (∀ t : Int, t < α 0 1 * 81 → τ 7 t = σ 7 t) → (∀ v : Int, 1 ≤ v → v < w → τ 7 (α 0 1 * 81 + v) = sm2 α a b v) → (∀ v : Int, 1 ≤ v → v < w → sm2 α a b v ≤ 16000) → Z X (rX5_draftBoth zN) mX5_draftBoth 2 [(2, 6), (0, a), (0, b), (0, w), (9, 0)] [] zN τ (zQz (fun r11 σ12 => ((r11 = false) → T (-4) σ12) ∧ ((r11 = true) → (Fix σ12) ∧ ZC X (rX5_keepDraft zN) mX5_keepDraft [(2, 6)] zN σ12 (zQi (fun r14 σ15 => T r14 σ15))))) := by
    intro l
    induction l with
    | zero =>
      intro w τ w0 hw f o o7 v7 ft
      have : w = 81 := by omega
      subst this
      have t6 : τ 6 1 = α 0 1 := by rw [o 6 (by decide), cw.1]
      have fb : fitb (sm2 α a b) 81 = true := fitb_iff.mpr (fun i i0 i1 => by
        by_cases q : i = 0
        · have x1 := (ok.w a i a0 a1 i0 (by omega)).2 q
          have x2 := (ok.w b i b0 b1 i0 (by omega)).2 q
          show α 5 (81 * a + i) + α 5 (81 * b + i) ≤ 16000
          omega
        · exact ft i (by omega) (by omega))
      have eo : o_sum α a b = α 0 1 := by unfold o_sum; rw [if_neg inr, if_neg (by omega), if_pos fb]
      unfold s_sum at h
      rw [eo, if_pos hl.1] at h
      refine bk_X5_draftBoth_2 ⟨by decide, fun _ => ⟨fun q => (by cases q), fun _ => ⟨f, c_keep t6 ok l6 ?_⟩⟩, fun q => absurd (by decide) q⟩
      refine h _ (fun c hc => by rw [z_up_far _ _ _ (by omega)]; exact o c (by omega)) (cs.law (f.upF la_6 1 (by decide +kernel)) (fun c _ c6 c7 => by rw [z_up_far _ _ _ c6]; exact o c c7) (z_up_same _ _ _ _) (fun l w l0 l1 w0 w1 => ?_) (fun w w0 w1 => ?_))
      · rw [z_up_far _ _ _ (by decide)]; exact o7 _ (by omega)
      · rw [z_up_far _ _ _ (by decide)]; exact v7 w w0 (by omega)
    | succ l ih =>
      intro w τ w0 hw f o o7 v7 ft
      have t6 : τ 6 1 = α 0 1 := by rw [o 6 (by decide), cw.1]
      have cwt : CW τ α := ⟨t6, fun l w l0 l1 w0 w1 => by rw [o7 _ (by omega)]; exact cw.2 l w l0 l1 w0 w1⟩
      have x1 := (ok.w a w a0 a1 (by omega) (by omega)).1
      have x2 := (ok.w b w b0 b1 (by omega) (by omega)).1
      refine bk_X5_draftBoth_2 ⟨by constructor <;> omega, fun q => absurd q (by omega), fun _ => c_tell a0 a1 (by omega) (by omega) f cwt ok (c_tell b0 b1 (by omega) (by omega) f cwt ok ⟨by constructor <;> omega, fun q => c_draft f t6 ok l6 w0 (by omega) ?_, fun q => ⟨fun _ => ?_, fun q => (by cases q)⟩⟩)⟩
      · refine ih (w + 1) _ (by omega) (by omega) (f.upA la_7 (by decide)) (fun c c7 => by rw [z_up_far _ _ _ c7]; exact o c c7) (fun t ht => ?_) (fun v v0 v1 => ?_) (fun v v0 v1 => ?_)
        · rw [z_up_row, fu_n _ _ (by omega)]; exact o7 t ht
        · rw [z_up_row]
          by_cases q : v = w
          · subst q; rw [fu_s]; rfl
          · rw [fu_n _ _ (by omega)]; exact v7 v v0 (by omega)
        · by_cases q3 : v = w
          · subst q3; exact q
          · exact ft v v0 (by omega)
      · have fb : fitb (sm2 α a b) 81 = false := by
          apply Bool.eq_false_iff.mpr
          intro y
          exact q (fitb_iff.mp y w (by omega) (by omega))
        refine bad τ (fun c hc => o c (by omega)) ?_ (-4) (by unfold o_sum; rw [if_neg inr, if_neg (by omega), fb]; rfl) (by decide)
        obtain ⟨c1, c2, c3, c4, c5, c6, c7⟩ := cs
        refine ⟨c1.fr f (fun c _ _ _ => o c (by omega)), c2.fr (o 3 (by decide)) (o 4 (by decide)) (o 5 (by decide)) rfl rfl rfl, c3.fr (by rw [o 1 (by decide)]) (by rw [o 1 (by decide)]) (fun c _ _ => o c (by have := c3.1; omega)) rfl rfl rfl rfl rfl, cwt, c5.fr (by rw [o 1 (by decide)]) (by rw [o 1 (by decide)]) (by rw [o 141 (by decide)]) rfl rfl rfl, c6.fr (fun c _ _ => o c (by omega)) rfl rfl rfl, c7.fr (fun c _ _ => o c (by omega)) rfl⟩
  exact bk_X5_draftBoth (loop 80 1 σ (by decide) (by decide) hf (fun _ _ => rfl) (fun _ _ => rfl) (fun v v0 v1 => by omega) (fun v v0 v1 => by omega))
theorem m_sum {X : ZS} {σ α : ZM} {T : Int → ZM → Prop} {a b : Int} (ha : r32 a) (hb : r32 b) (ms : MS σ α) (ok : Ok α) (h : ∀ σ', Ou 211 229 σ σ' → MS σ' (s_sum α a b) → T (o_sum α a b) σ') : ZC X (rX12_sum zN) mX12_sum [(2, 211), (0, a), (0, b)] zN σ (zQi T) := by
  have hf := ms.fix
  have hl := ok.l
  have mw := ms.2.2.2.1
  have bad : ∀ e, o_sum α a b = e → e < 0 → T e σ := fun e he q => by
    unfold s_sum at h; rw [he, if_neg (by omega)] at h; exact h σ Ou.rfl' ms
  refine bk_X12_sum (m_isLaw ha mw ok (fun a0 a1 => ⟨fun q => (by cases q), fun _ => m_isLaw hb mw ok (fun b0 b1 => ⟨fun _ => ⟨by rw [mw.1]; constructor <;> omega, fun q => ?_, fun q => bad (-8) (by unfold o_sum; rw [if_neg (fun w => w ⟨⟨a0, a1⟩, b0, b1⟩), if_pos (by rw [← mw.1]; exact q)]) (by decide)⟩, fun q => (by cases q)⟩) (fun q => ⟨fun q => (by cases q), fun _ => bad (-2) (by unfold o_sum; rw [if_pos (fun w => q w.2)]) (by decide)⟩)⟩) (fun q => ⟨fun _ => bad (-2) (by unfold o_sum; rw [if_pos (fun w => q w.1)]) (by decide), fun q => (by cases q)⟩))
  have inr : ¬ ¬ ((0 ≤ a ∧ a < α 0 1) ∧ 0 ≤ b ∧ b < α 0 1) := fun q => q ⟨⟨a0, a1⟩, b0, b1⟩
  have l6 : α 0 1 < 6 := by have := mw.1; omega
  have loop2 : fitb (sm2 α a b) 81 = true → ∀ (l : Nat) (w : Int) (τ : ZM), 0 ≤ w → w + l = 81 → Fix τ → (∀ c : Int, c ≠ 220 → τ c = σ c) → (∀ t : Int, t < 81 * α 0 1 → τ 220 t = σ 220 t) → (∀ v : Int, 0 ≤ v → v < w → τ 220 (81 * α 0 1 + v) = sm2 α a b v) → Z X (rX12_sum zN) mX12_sum 79 [(2, 211), (0, a), (0, b), (0, w)] [] zN τ (zQi T) := by
    intro fb l
    have eo : o_sum α a b = α 0 1 := by unfold o_sum; rw [if_neg inr, if_neg (by omega), if_pos fb]
    unfold s_sum at h
    rw [eo, if_pos hl.1] at h
    induction l with
    | zero =>
      intro w τ w0 hw f o o7 v7
      have : w = 81 := by omega
      subst this
      have t9 : τ 211 9 = α 0 1 := by rw [o 211 (by decide), mw.1]
      refine bk_X12_sum_79 ⟨by decide, fun _ => ?_, fun q => absurd (by decide) q⟩
      rw [t9, show α 0 1 + 1 - 1 = α 0 1 by omega]
      refine h _ (fun c hc => by rw [z_up_far _ _ _ (by omega)]; exact o c (by omega)) (ms.law (f.upF la_211 9 (by decide +kernel)) (fun c c1 c2 _ => by rw [z_up_far _ _ _ c1]; exact o c c2) (fun i i9 => by rw [z_up_ne _ (Or.inr i9), o 211 (by decide)]) (z_up_same _ _ _ _) (fun l w l0 l1 w0 w1 => ?_) (fun w w0 w1 => ?_))
      · rw [z_up_far _ _ _ (by decide)]; exact o7 _ (by omega)
      · rw [z_up_far _ _ _ (by decide)]; exact v7 w w0 (by omega)
    | succ l ih =>
      intro w τ w0 hw f o o7 v7
      have t9 : τ 211 9 = α 0 1 := by rw [o 211 (by decide), mw.1]
      refine bk_X12_sum_79 ⟨by constructor <;> omega, fun q => absurd q (by omega), fun _ => ⟨f, by omega, by omega, by omega, by omega, by rw [t9]; omega, by rw [t9]; omega, ?_⟩⟩
      rw [t9, o7 _ (by omega), o7 _ (by omega), mw.2 a w a0 a1 w0 (by omega), mw.2 b w b0 b1 w0 (by omega)]
      refine ih (w + 1) _ (by omega) (by omega) (f.upA la_220 (by decide)) (fun c c7 => by rw [z_up_far _ _ _ c7]; exact o c c7) (fun t ht => ?_) (fun v v0 v1 => ?_)
      · rw [z_up_row, fu_n _ _ (by omega)]; exact o7 t ht
      · rw [z_up_row]
        by_cases q : v = w
        · subst q; rw [fu_s]; rfl
        · rw [fu_n _ _ (by omega)]; exact v7 v v0 (by omega)
  have loop : ∀ (l : Nat) (w : Int), 0 ≤ w → w + l = 81 → (∀ v : Int, 0 ≤ v → v < w → sm2 α a b v ≤ 16000) → Z X (rX12_sum zN) mX12_sum 33 [(2, 211), (0, a), (0, b), (0, w)] [] zN σ (zQi T) := by
    intro l
    induction l with
    | zero =>
      intro w w0 hw ft
      have : w = 81 := by omega
      subst this
      exact bk_X12_sum_33 ⟨by decide, fun _ => loop2 (fitb_iff.mpr ft) 81 0 σ (Int.le_refl _) (by decide) hf (fun _ _ => rfl) (fun _ _ => rfl) (fun v v0 v1 => by omega), fun q => absurd (by decide) q⟩
    | succ l ih =>
      intro w w0 hw ft
      have x1 := (ok.w a w a0 a1 w0 (by omega)).1
      have x2 := (ok.w b w b0 b1 w0 (by omega)).1
      have y1 := mw.2 a w a0 a1 w0 (by omega)
      have y2 := mw.2 b w b0 b1 w0 (by omega)
      refine bk_X12_sum_33 ⟨by constructor <;> omega, fun q => absurd q (by omega), fun _ => ⟨hf, by omega, by omega, by omega, by omega, by rw [y1, y2]; constructor <;> omega, fun q => ih (w + 1) (by omega) (by omega) (fun v v0 v1 => ?_), fun q => bad (-4) ?_ (by decide)⟩⟩
      · by_cases e : v = w
        · subst e; show α 5 (81 * a + v) + α 5 (81 * b + v) ≤ 16000; rw [← y1, ← y2]; exact q
        · exact ft v v0 (by omega)
      · have fb : fitb (sm2 α a b) 81 = false := by
          apply Bool.eq_false_iff.mpr
          intro y
          have := fitb_iff.mp y w w0 (by omega)
          exact q (by rw [y1, y2]; exact this)
        unfold o_sum; rw [if_neg inr, if_neg (by omega), fb]; rfl
  exact loop 81 0 (Int.le_refl _) (by decide) (fun v v0 v1 => by omega)
