/-- all Wholes are in form -/
def AW (σ : ZM) : Prop := ∀ a : Int, z_l a = (9, 3) → WF σ a
/-- nothing outside the cells lo .. hi has changed -/
def Ou (lo hi : Int) (σ σ' : ZM) : Prop := ∀ c : Int, c < lo ∨ hi < c → σ' c = σ c
theorem Ou.rfl' {lo hi : Int} {σ : ZM} : Ou lo hi σ σ := fun _ _ => rfl
theorem Ou.trans {lo hi : Int} {σ σ1 σ2 : ZM} (h1 : Ou lo hi σ σ1) (h2 : Ou lo hi σ1 σ2) : Ou lo hi σ σ2 := fun c h => (h2 c h).trans (h1 c h)
theorem Ou.mono {lo hi lo' hi' : Int} {σ σ1 : ZM} (h : Ou lo hi σ σ1) (h1 : lo' ≤ lo) (h2 : hi ≤ hi') : Ou lo' hi' σ σ1 := fun c h' => h c (by omega)
theorem Ou.ofW {lo hi a : Int} {σ σ1 : ZM} (h : OnW a σ σ1) (h1 : lo ≤ a) (h2 : a + 1 ≤ hi) : Ou lo hi σ σ1 := fun c h' => by
  funext i
  exact h c i (by omega) (by omega)
theorem Ou.ofD {lo hi d q : Int} {σ σ1 : ZM} (h : OnD d q σ σ1) (h1 : lo ≤ d) (h2 : d + 2 ≤ hi) (h3 : lo ≤ q) (h4 : q + 1 ≤ hi) : Ou lo hi σ σ1 := fun c h' => by
  funext i
  exact h c i (by omega) (by omega) (by omega) (by omega) (by omega)
theorem OnW.aw {a : Int} {σ σ' : ZM} (h : OnW a σ σ') (ha : z_l a = (9, 3)) (hw : WF σ' a) (hA : AW σ) : AW σ' := fun b hb => by
  by_cases hab : b = a
  · rw [hab]; exact hw
  · exact h.wf ha hb hab (hA b hb)
theorem OnD.aw {d q : Int} {σ σ' : ZM} (h : OnD d q σ σ') (hd : z_l d = (1, 4)) (hq : z_l q = (9, 3)) (hw : WF σ' q) (hA : AW σ) : AW σ' := fun b hb => by
  by_cases hab : b = q
  · rw [hab]; exact hw
  · exact (h.wf hd hq hb hab (hA b hb)).1
/-- g is the greatest common divisor -/
def gx (g a b : Int) : Prop := 0 ≤ g ∧ ∀ d : Int, d ∣ g ↔ d ∣ a ∧ d ∣ b
theorem gx_step {g a b : Int} (h : gx g b (a % b)) : gx g a b := by
  refine ⟨h.1, fun d => ?_⟩
  rw [h.2 d]
  have e := Int.mul_ediv_add_emod a b
  refine ⟨fun ⟨h1, h2⟩ => ⟨?_, h1⟩, fun ⟨h1, h2⟩ => ⟨h2, ?_⟩⟩
  · rw [← e]; exact Int.dvd_add (Int.dvd_trans h1 (Int.dvd_mul_right _ _)) h2
  · have e2 : a % b = a - b * (a / b) := by omega
    rw [e2]; exact Int.dvd_sub h1 (Int.dvd_trans h2 (Int.dvd_mul_right _ _))
theorem gx_end {a : Int} (h : 0 ≤ a) : gx a a 0 := ⟨h, fun d => ⟨fun q => ⟨q, Int.dvd_zero _⟩, fun q => q.1⟩⟩
theorem gx_half {a b : Int} {k : Nat} (h1 : b ≤ a) (h0 : 0 < b) (h : a * b < 2 ^ (k + 1)) : b * (a % b) < 2 ^ k := by
  have e := Int.mul_ediv_add_emod a b
  have m0 := Int.emod_nonneg a (show b ≠ 0 by omega)
  have m1 := Int.emod_lt_of_pos a h0
  have q1 : 1 ≤ a / b := by
    apply Classical.byContradiction
    intro w
    have : b * (a / b) ≤ b * 0 := Int.mul_le_mul_of_nonneg_left (by omega) (by omega)
    omega
  have q2 : b * 1 ≤ b * (a / b) := Int.mul_le_mul_of_nonneg_left q1 (by omega)
  have : (2 * (a % b)) * b ≤ a * b := Int.mul_le_mul_of_nonneg_right (by omega) (by omega)
  rw [Int.pow_succ] at h
  have e3 : (2 * (a % b)) * b = 2 * (b * (a % b)) := by grind
  omega
theorem c_isLarger {X : ZS} {σ : ZM} {T : Bool → ZM → Prop} {p q : Int} (hp : z_l p = (3, 2)) (hq : z_l q = (3, 2)) (n1 : p ≠ 172) (n2 : q ≠ 172) (hf : Fix σ) (hA : AW σ) (s1 : σ (p + 1) 1 + σ (q + 3) 1 ≤ 12) (s2 : σ (q + 1) 1 + σ (p + 3) 1 ≤ 12)
    (h : ∀ (b : Bool) σ', Fix σ' → AW σ' → Ou 173 176 σ σ' → (b = true ↔ (wv σ (q + 1) * wv σ (p + 3)).natAbs < (wv σ (p + 1) * wv σ (q + 3)).natAbs) → T b σ') : ZC X (rX10_isLarger zN) mX10_isLarger [(2, 169), (2, p), (2, q)] zN σ (zQz T) := by
  have p1 := zo_3_0 hp
  have p3 := zo_3_1 hp
  have q1 := zo_3_0 hq
  have q3 := zo_3_1 hq
  have np : p + 1 ≠ 173 ∧ p + 3 ≠ 173 ∧ p + 1 ≠ 175 ∧ p + 3 ≠ 175 := by
    refine ⟨by omega, ?_, ?_, by omega⟩
    · intro w; have : p = 170 := by omega
      rw [this, la_170] at hp; cases hp
    · intro w; have : p = 174 := by omega
      rw [this, la_174] at hp; cases hp
  have nq : q + 1 ≠ 173 ∧ q + 3 ≠ 173 ∧ q + 1 ≠ 175 ∧ q + 3 ≠ 175 := by
    refine ⟨by omega, ?_, ?_, by omega⟩
    · intro w; have : q = 170 := by omega
      rw [this, la_170] at hq; cases hq
    · intro w; have : q = 174 := by omega
      rw [this, la_174] at hq; cases hq
  refine bk_X10_isLarger hp hq ⟨hf, ?_⟩
  refine c_multiply la_173 p1 q3 np.1 nq.2.1 hf (hA _ la_173) (hA _ p1) (hA _ q3) s1 (fun σ3 o3 w3 v3 => ?_)
  have f3 := o3.fix la_173 hf
  have A3 := o3.aw la_173 w3 hA
  refine ⟨f3, c_multiply la_175 q1 p3 nq.2.2.1 np.2.2.2 f3 (A3 _ la_175) (A3 _ q1) (A3 _ p3) ?_ (fun σ6 o6 w6 v6 => ?_)⟩
  · rw [o3.fld la_173 q1 nq.1, o3.fld la_173 p3 np.2.1]; exact s2
  have f6 := o6.fix la_175 f3
  have A6 := o6.aw la_175 w6 A3
  rw [o3.val la_173 q1 nq.1, o3.val la_173 p3 np.2.1] at v6
  have v3' : wv σ6 173 = wv σ (p + 1) * wv σ (q + 3) := by rw [o6.val la_175 la_173 (by decide), v3]
  refine ⟨f6, c_compareSize la_173 la_175 f6 (A6 _ la_173) (A6 _ la_175) (fun r hr hc => ⟨hr, fun c => ?_, fun c => ?_⟩)⟩
  all_goals
    have ou : Ou 173 176 σ σ6 := (Ou.ofW o3 (by decide) (by decide)).trans (Ou.ofW o6 (by decide) (by decide))
    rw [← (A6 _ la_173).abs, ← (A6 _ la_175).abs, v6, v3'] at hc
    refine h _ σ6 f6 A6 ou ?_
    constructor
    · intro _; first | contradiction | omega
    · intro _; first | rfl | omega
theorem c_findShared {X : ZS} {σ : ZM} {T : Int → ZM → Prop} {p : Int} (hp : z_l p = (3, 2)) (n1 : 178 < p) (hf : Fix σ) (hA : AW σ)
    (h : ∀ r σ', r = 173 ∨ r = 175 → Fix σ' → AW σ' → Ou 170 178 σ σ' → gx (wm σ' r) (wm σ (p + 1)) (wm σ (p + 3)) → T r σ') : ZC X (rX10_findShared zN) mX10_findShared [(2, 169), (2, p)] zN σ (zQa T) := by
  have p1 := zo_3_0 hp
  have p3 := zo_3_1 hp
  have wm0 : ∀ {τ : ZM} {a : Int}, AW τ → z_l a = (9, 3) → 0 ≤ wm τ a ∧ wm τ a < pw 12 := fun {τ a} hA ha => (hA a ha).lt (Nat.le_refl _) (hA a ha).2.1
  -- one step
  have step : ∀ (a b x : Int) (τ : ZM), (a = 173 ∧ b = 175) ∨ (a = 175 ∧ b = 173) → 0 ≤ x → x < 1000000 → Fix τ → AW τ → Ou 170 178 σ τ → wm τ b ≠ 0 → (∀ τ', Fix τ' → AW τ' → Ou 170 178 σ τ' → wm τ' b = wm τ b → wm τ' a = wm τ a % wm τ b → Z X (rX10_findShared zN) mX10_findShared 29 [(2, 169), (9, 0), (2, b), (2, a), (0, (x + 1)), (9, 0)] [] zN τ' (zQa T)) →
      Z X (rX10_findShared zN) mX10_findShared 29 [(2, 169), (9, 0), (2, a), (2, b), (0, x), (9, 0)] [] zN τ (zQa T) := by
    intro a b x τ hab hx0 hx1 hf hA ho hb0 hgo
    have la : z_l a = (9, 3) := by rcases hab with w | w <;> rw [w.1]; exact la_173; exact la_175
    have lb : z_l b = (9, 3) := by rcases hab with w | w <;> rw [w.2]; exact la_175; exact la_173
    have ws := (hA b lb).zero
    have w1 := (hA b lb).1
    have wb := wm0 hA lb
    have wa := wm0 hA la
    refine bk_X10_findShared_29 la lb ⟨by constructor <;> omega, fun w => absurd w (by omega), fun _ => ⟨(hA b lb).s32, fun w => absurd (ws.mpr (by omega)) hb0, fun _ => ⟨hf, ?_⟩⟩⟩
    refine c_divide la_170 la lb la_177 (by omega) hf (hA a la) (hA b lb) (hA _ la_177) ?_ (fun σ5 o5 w5 v5 rs => ?_)
    · intro w
      have := (hA b lb).abs
      rw [w] at this
      exact hb0 this.symm
    have f5 := o5.fix la_170 la_177 hf
    have A5 := o5.aw la_170 la_177 w5 hA
    refine ⟨f5, c_takeRest la_170 la f5 (A5 a la) rs (fun σ8 o8 w8 v8 => ?_)⟩
    have m0 := Int.emod_nonneg (wm τ a) hb0
    refine hgo σ8 (o8.fix la f5) (o8.aw la w8 A5) ((ho.trans (Ou.ofD o5 (by decide) (by decide) (by decide) (by decide))).trans (Ou.ofW o8 (by omega) (by omega))) ?_ ?_
    · have e1 : wm σ8 b = wm σ5 b := by unfold wm; rw [o8.row la lb (by omega)]
      rw [e1, (o5.wf la_170 la_177 lb (by omega) (hA b lb)).2.2]
    · rw [← w8.abs, v8]; omega
  have stop : ∀ (a b x : Int) (τ : ZM), (a = 173 ∧ b = 175) ∨ (a = 175 ∧ b = 173) → 0 ≤ x → x < 1000000 → Fix τ → AW τ → Ou 170 178 σ τ → wm τ b = 0 → gx (wm τ a) (wm σ (p + 1)) (wm σ (p + 3)) →
      Z X (rX10_findShared zN) mX10_findShared 29 [(2, 169), (9, 0), (2, a), (2, b), (0, x), (9, 0)] [] zN τ (zQa T) := by
    intro a b x τ hab hx0 hx1 hf hA ho hb0 hg
    have la : z_l a = (9, 3) := by rcases hab with w | w <;> rw [w.1]; exact la_173; exact la_175
    have lb : z_l b = (9, 3) := by rcases hab with w | w <;> rw [w.2]; exact la_175; exact la_173
    have ws := (hA b lb).zero.mp hb0
    refine bk_X10_findShared_29 la lb ⟨by constructor <;> omega, fun w => absurd w (by omega), fun _ => ⟨(hA b lb).s32, fun _ => ?_, fun w => absurd (by omega) w⟩⟩
    exact h a τ (by omega) hf hA ho hg
  have key : ∀ (k : Nat) (a b x : Int) (τ : ZM), (a = 173 ∧ b = 175) ∨ (a = 175 ∧ b = 173) → 0 ≤ x → x + k < 1000000 → Fix τ → AW τ → Ou 170 178 σ τ → wm τ b ≤ wm τ a → wm τ a * wm τ b < 2 ^ k → (∀ g, gx g (wm τ a) (wm τ b) → gx g (wm σ (p + 1)) (wm σ (p + 3))) →
      Z X (rX10_findShared zN) mX10_findShared 29 [(2, 169), (9, 0), (2, a), (2, b), (0, x), (9, 0)] [] zN τ (zQa T) := by
    intro k
    induction k with
    | zero =>
      intro a b x τ hab hx0 hx1 hf hA ho hle hk hg
      have la : z_l a = (9, 3) := by rcases hab with w | w <;> rw [w.1]; exact la_173; exact la_175
      have lb : z_l b = (9, 3) := by rcases hab with w | w <;> rw [w.2]; exact la_175; exact la_173
      have wb := wm0 hA lb
      have wa := wm0 hA la
      have hz : wm τ b = 0 := by
        apply Classical.byContradiction
        intro w
        have := Int.mul_pos (show 0 < wm τ a by omega) (show 0 < wm τ b by omega)
        omega
      refine stop a b x τ hab hx0 (by omega) hf hA ho hz (hg _ ?_)
      rw [hz]; exact gx_end wa.1
    | succ k ih =>
      intro a b x τ hab hx0 hx1 hf hA ho hle hk hg
      have la : z_l a = (9, 3) := by rcases hab with w | w <;> rw [w.1]; exact la_173; exact la_175
      have lb : z_l b = (9, 3) := by rcases hab with w | w <;> rw [w.2]; exact la_175; exact la_173
      have wb := wm0 hA lb
      have wa := wm0 hA la
      by_cases hz : wm τ b = 0
      · refine stop a b x τ hab hx0 (by omega) hf hA ho hz (hg _ ?_)
        rw [hz]; exact gx_end wa.1
      · refine step a b x τ hab hx0 (by omega) hf hA ho hz (fun τ' f' A' o' e1 e2 => ?_)
        refine ih b a (x + 1) τ' (by omega) (by omega) (by omega) f' A' o' ?_ ?_ ?_
        · rw [e1, e2]; exact Int.le_of_lt (Int.emod_lt_of_pos _ (by omega))
        · rw [e1, e2]; exact gx_half hle (by omega) hk
        · intro g hg'
          rw [e1, e2] at hg'
          exact hg g (gx_step hg')
  refine bk_X10_findShared hp ⟨hf, c_copyFrom la_173 p1 (by omega) hf (hA _ la_173) (hA _ p1) (fun σ3 o3 w3 v3 => ?_)⟩
  have f3 := o3.fix la_173 hf
  have A3 := o3.aw la_173 w3 hA
  refine ⟨f3, c_copyFrom la_175 p3 (by omega) f3 (A3 _ la_175) (A3 _ p3) (fun σ6 o6 w6 v6 => ?_)⟩
  have f6 := o6.fix la_175 f3
  have A6 := o6.aw la_175 w6 A3
  have ou : Ou 170 178 σ σ6 := (Ou.ofW o3 (by decide) (by decide)).trans (Ou.ofW o6 (by decide) (by decide))
  rw [o3.val la_173 p3 (by omega)] at v6
  have e1 : wm σ6 173 = wm σ (p + 1) := by rw [← (A6 _ la_173).abs, ← (hA _ p1).abs, o6.val la_175 la_173 (by decide), v3]
  have e2 : wm σ6 175 = wm σ (p + 3) := by rw [← (A6 _ la_175).abs, ← (hA _ p3).abs, v6]
  have wa := wm0 A6 la_173
  have wb := wm0 A6 la_175
  have big : pw 12 * pw 12 < 2 ^ 720 := by unfold pw; decide +kernel
  have sm : wm σ6 173 * wm σ6 175 < 2 ^ 720 := by
    have h1 : wm σ6 173 * wm σ6 175 ≤ pw 12 * wm σ6 175 := Int.mul_le_mul_of_nonneg_right (by omega) (by omega)
    have h2 : pw 12 * wm σ6 175 ≤ pw 12 * pw 12 := Int.mul_le_mul_of_nonneg_left (by omega) (Int.le_of_lt (pw_pos _))
    omega
  rcases Int.lt_or_le (wm σ6 173) (wm σ6 175) with w | w
  · refine step 173 175 0 σ6 (Or.inl ⟨rfl, rfl⟩) (by decide) (by decide) f6 A6 ou (by omega) (fun τ' f' A' o' g1 g2 => ?_)
    rw [Int.emod_eq_of_lt wa.1 w] at g2
    refine key 720 175 173 (0 + 1) τ' (Or.inr ⟨rfl, rfl⟩) (by decide) (by decide) f' A' o' ?_ ?_ ?_
    · rw [g1, g2]; omega
    · rw [g1, g2, Int.mul_comm]; exact sm
    · intro g hg
      rw [g1, g2, e1, e2] at hg
      exact ⟨hg.1, fun d => by rw [hg.2 d]; exact And.comm⟩
  · exact key 720 173 175 0 σ6 (Or.inl ⟨rfl, rfl⟩) (by decide) (by decide) f6 A6 ou w sm (fun g hg => by rw [e1, e2] at hg; exact hg)
