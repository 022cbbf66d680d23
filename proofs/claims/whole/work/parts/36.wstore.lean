/-! the class's whole numbers as a store of values, by their addresses -/
def WN (σ : ZM) (w : Int → Int) : Prop := Fix σ ∧ AW σ ∧ ∀ a : Int, z_l a = (9, 3) → wv σ a = w a
theorem WN.wf {σ : ZM} {w : Int → Int} (h : WN σ w) {a : Int} (ha : z_l a = (9, 3)) : WF σ a := h.2.1 a ha
theorem WN.val {σ : ZM} {w : Int → Int} (h : WN σ w) {a : Int} (ha : z_l a = (9, 3)) : wv σ a = w a := h.2.2 a ha
theorem WN.onW {σ σ' : ZM} {w : Int → Int} {a x : Int} (h : WN σ w) (ho : OnW a σ σ') (ha : z_l a = (9, 3)) (hw : WF σ' a) (hv : wv σ' a = x) : WN σ' (fu w a x) := by
  refine ⟨ho.fix ha h.1, ho.aw ha hw h.2.1, fun b hb => ?_⟩
  by_cases hab : b = a
  · subst hab; rw [fu_s]; exact hv
  · rw [fu_n _ _ hab, ho.val ha hb hab]; exact h.2.2 b hb
theorem WN.onD {σ σ' : ZM} {w : Int → Int} {d a x : Int} (h : WN σ w) (ho : OnD d a σ σ') (hd : z_l d = (1, 4)) (ha : z_l a = (9, 3)) (hw : WF σ' a) (hv : wv σ' a = x) : WN σ' (fu w a x) := by
  refine ⟨ho.fix hd ha h.1, ho.aw hd ha hw h.2.1, fun b hb => ?_⟩
  by_cases hab : b = a
  · subst hab; rw [fu_s]; exact hv
  · rw [fu_n _ _ hab, (ho.wf hd ha hb hab (h.wf hb)).2.1]; exact h.2.2 b hb
theorem WN.congr {σ : ZM} {w u : Int → Int} (h : WN σ w) (he : ∀ a : Int, z_l a = (9, 3) → w a = u a) : WN σ u := ⟨h.1, h.2.1, fun a ha => (h.2.2 a ha).trans (he a ha)⟩
/-- few parts, when the value is small -/
theorem WN.sz {σ : ZM} {w : Int → Int} (h : WN σ w) {a : Int} (ha : z_l a = (9, 3)) {m : Nat} (h1 : -pw m < w a) (h2 : w a < pw m) : σ a 1 ≤ m := by
  apply Classical.byContradiction
  intro q
  have g := (h.wf ha).ge (m := m) (by omega)
  have e := (h.wf ha).abs
  rw [h.val ha] at e
  omega
theorem WN.sgn {σ : ZM} {w : Int → Int} (h : WN σ w) {a : Int} (ha : z_l a = (9, 3)) : (σ a 2 = 0 ↔ w a = 0) ∧ (σ a 2 < 0 ↔ w a < 0) := by
  have s := (h.wf ha).sgn
  have t := (h.wf ha).2.2.2.2.2.1
  rw [h.val ha] at s
  refine ⟨s.2.2, ?_⟩
  constructor
  · intro q
    exact s.2.1.mp (by omega)
  · intro q
    have := s.2.1.mpr q
    omega
theorem WN.low {σ : ZM} {w : Int → Int} (h : WN σ w) {a : Int} (ha : z_l a = (9, 3)) (hs : ¬ 2 ≤ σ a 1) : σ a 2 * σ (a + 1) 0 = w a ∧ -1000000000 < w a ∧ w a < 1000000000 := by
  have e := (h.wf ha).low (by omega)
  rw [h.val ha] at e
  have l := (h.wf ha).lt (m := 1) (by decide) (by have := (h.wf ha).1; omega)
  have ab := (h.wf ha).abs
  rw [h.val ha] at ab
  rw [show pw 1 = 1000000000 from rfl] at l
  refine ⟨e.symm, ?_, ?_⟩ <;> omega
theorem w_put {X : ZS} {σ : ZM} {T : ZM → Prop} {w : Int → Int} {a x : Int} (ha : z_l a = (9, 3)) (h : WN σ w) (hx : r64 x) (hm : x ≠ -9223372036854775808) (hT : ∀ σ', OnW a σ σ' → WN σ' (fu w a x) → T σ') : ZC X (rX9_put zN) mX9_put [(2, a), (1, x)] zN σ (zQv T) :=
  c_putW ha h.1 (h.wf ha) hx hm (fun σ' o' w' v' => hT σ' o' (h.onW o' ha w' v'))
theorem w_copy {X : ZS} {σ : ZM} {T : ZM → Prop} {w : Int → Int} {a b : Int} (ha : z_l a = (9, 3)) (hb : z_l b = (9, 3)) (hab : a ≠ b) (h : WN σ w) (hT : ∀ σ', OnW a σ σ' → WN σ' (fu w a (w b)) → T σ') : ZC X (rX9_copyFrom zN) mX9_copyFrom [(2, a), (2, b)] zN σ (zQv T) :=
  c_copyFrom ha hb hab h.1 (h.wf ha) (h.wf hb) (fun σ' o' w' v' => hT σ' o' (h.onW o' ha w' (v'.trans (h.val hb))))
theorem w_add {X : ZS} {σ : ZM} {T : ZM → Prop} {w : Int → Int} {a b f : Int} (ha : z_l a = (9, 3)) (hb : z_l b = (9, 3)) (hab : a ≠ b) (h : WN σ w) (hf : r32 f) (hlo : -pw 12 < w a + f * w b) (hhi : w a + f * w b < pw 12) (hT : ∀ σ', OnW a σ σ' → WN σ' (fu w a (w a + f * w b)) → T σ') : ZC X (rX9_addTimes zN) mX9_addTimes [(2, a), (2, b), (0, f)] zN σ (zQv T) :=
  c_addTimes ha hb hab h.1 (h.wf ha) (h.wf hb) hf (by rw [h.val ha, h.val hb]; exact hlo) (by rw [h.val ha, h.val hb]; exact hhi) (fun σ' o' w' v' => hT σ' o' (h.onW o' ha w' (by rw [v', h.val ha, h.val hb])))
theorem w_mul {X : ZS} {σ : ZM} {T : ZM → Prop} {w : Int → Int} {a b c : Int} (ha : z_l a = (9, 3)) (hb : z_l b = (9, 3)) (hc : z_l c = (9, 3)) (hab : b ≠ a) (hac : c ≠ a) (h : WN σ w) (m n : Nat) (hmn : m + n ≤ 12) (b1 : -pw m < w b) (b2 : w b < pw m) (c1 : -pw n < w c) (c2 : w c < pw n) (hT : ∀ σ', OnW a σ σ' → WN σ' (fu w a (w b * w c)) → T σ') : ZC X (rX9_multiply zN) mX9_multiply [(2, a), (2, b), (2, c)] zN σ (zQv T) :=
  c_multiply ha hb hc hab hac h.1 (h.wf ha) (h.wf hb) (h.wf hc) (by have := h.sz hb b1 b2; have := h.sz hc c1 c2; omega) (fun σ' o' w' v' => hT σ' o' (h.onW o' ha w' (by rw [v', h.val hb, h.val hc])))
theorem w_sgn {sa sb A B q : Int} (ha : sa = -1 ∨ sa = 0 ∨ sa = 1) (hb : sb = -1 ∨ sb = 0 ∨ sb = 1) (hA : 0 ≤ A) (hB : 0 < B) (hb0 : sb ≠ 0) (hz : sa = 0 → A = 0) (he : sa * A = q * (sb * B)) : sa * sb * (A / B) = q := by
  have hAq : A = B * (sa * sb * q) ∨ A = 0 ∧ q = 0 := by
    rcases ha with e | e | e <;> rcases hb with e2 | e2 | e2 <;> subst e <;> subst e2
    all_goals first | exact absurd rfl hb0 | skip
    · left; rw [show -1 * A = -A by omega, show q * (-1 * B) = -(q * B) by grind] at he; rw [show B * (-1 * -1 * q) = q * B by grind]; omega
    · left; rw [show -1 * A = -A by omega, show q * (1 * B) = q * B by grind] at he; rw [show B * (-1 * 1 * q) = -(q * B) by grind]; omega
    · right; have := hz rfl; subst this
      refine ⟨rfl, ?_⟩
      rcases Int.mul_eq_zero.mp (show q * (-1 * B) = 0 by omega) with w | w
      · exact w
      · omega
    · right; have := hz rfl; subst this
      refine ⟨rfl, ?_⟩
      rcases Int.mul_eq_zero.mp (show q * (1 * B) = 0 by omega) with w | w
      · exact w
      · omega
    · left; rw [show 1 * A = A by omega, show q * (-1 * B) = -(q * B) by grind] at he; rw [show B * (1 * -1 * q) = -(q * B) by grind]; omega
    · left; rw [show 1 * A = A by omega, show q * (1 * B) = q * B by grind] at he; rw [show B * (1 * 1 * q) = q * B by grind]; omega
  rcases hAq with e | e
  · rw [e, Int.mul_ediv_cancel_left _ (by omega)]
    by_cases hs : sa = 0
    · have := hz hs
      subst hs
      rw [this, show q * (sb * B) = B * sb * q by grind] at he
      rcases Int.mul_eq_zero.mp (show B * sb * q = 0 by omega) with w | w
      · rcases Int.mul_eq_zero.mp w with w2 | w2
        · omega
        · exact absurd w2 hb0
      · rw [w]; grind
    · have h1 : sa * sa = 1 := by rcases ha with e | e | e <;> subst e <;> first | rfl | exact absurd rfl hs
      have h2 : sb * sb = 1 := by rcases hb with e | e | e <;> subst e <;> first | rfl | exact absurd rfl hb0
      have : sa * sb * (sa * sb * q) = sa * sa * (sb * sb) * q := by grind
      rw [this, h1, h2]; omega
  · rw [e.1, e.2, Int.zero_ediv, Int.mul_zero]
theorem w_div {X : ZS} {σ : ZM} {T : ZM → Prop} {w : Int → Int} {d a b c q : Int} (hd : z_l d = (1, 4)) (ha : z_l a = (9, 3)) (hb : z_l b = (9, 3)) (hc : z_l c = (9, 3)) (hcb : b ≠ c) (h : WN σ w) (hb0 : w b ≠ 0) (he : w a = q * w b) (hT : ∀ σ', OnD d c σ σ' → WN σ' (fu w c q) → T σ') : ZC X (rX1_divide zN) mX1_divide [(2, d), (2, a), (2, b), (2, c)] zN σ (zQv T) := by
  refine c_divide hd ha hb hc hcb h.1 (h.wf ha) (h.wf hb) (h.wf hc) (by rw [h.val hb]; exact hb0) (fun σ' o' w' v' _ => hT σ' o' (h.onD o' hd hc w' ?_))
  rw [v']
  have wa := h.wf ha
  have wb := h.wf hb
  have la := wa.lt (Nat.le_refl _) wa.2.1
  have lb := wb.lt (Nat.le_refl _) wb.2.1
  have va := h.val ha
  have vb := h.val hb
  have zb := wb.zero
  have b0 : wm σ b ≠ 0 := fun w => hb0 (by rw [← vb]; unfold wv; rw [w, Int.mul_zero])
  refine w_sgn wa.2.2.2.2.2.1 wb.2.2.2.2.2.1 la.1 (by omega) (fun w => b0 (zb.mpr (wb.2.2.2.2.2.2.mp w))) (fun w => wa.zero.mpr (wa.2.2.2.2.2.2.mp w)) ?_
  show wv σ a = q * wv σ b
  rw [va, vb]; exact he
