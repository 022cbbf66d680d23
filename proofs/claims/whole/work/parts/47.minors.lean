def sub (A : Nat → Nat → Int) (d : Nat → Nat) : Nat → Nat → Int := fun i j => A (d i) (d j)
def Inc (n h : Nat) (d : Nat → Nat) : Prop := (∀ a, a < h → d a < n) ∧ ∀ a b, a < b → b < h → d a < d b
/-- the determinant of a square -/
def da (n : Nat) (A : Nat → Nat → Int) : Int := dt n (fun j i => A i j)
theorem da_congr {n : Nat} {A B : Nat → Nat → Int} (h : ∀ i j, i < n → j < n → A i j = B i j) : da n A = da n B := dt_congr (fun c r hc hr => h r c hr hc)
theorem Sy.sch {n : Nat} {A : Nat → Nat → Int} (h : Sy (n + 1) A) : Sy n (schu A) := fun i j hi hj => by
  unfold schu
  rw [h (i + 1) (j + 1) (by omega) (by omega), h (i + 1) 0 (by omega) (by omega), h 0 (j + 1) (by omega) (by omega), Int.mul_comm (A 0 (i + 1))]
theorem Sy.shf {n : Nat} {A : Nat → Nat → Int} (h : Sy (n + 1) A) : Sy n (shf A) := fun i j hi hj => h (i + 1) (j + 1) (by omega) (by omega)
theorem chio_sign {n : Nat} {A : Nat → Nat → Int} (hp : 0 < A 0 0) : (0 ≤ da n (schu A) ↔ 0 ≤ da (n + 1) A) ∧ (0 < da n (schu A) ↔ 0 < da (n + 1) A) := by
  have h := chio (n := n) A
  have hq : 0 < A 0 0 ^ n := Int.pow_pos hp
  refine ⟨⟨fun q => ?_, fun q => ?_⟩, ⟨fun q => ?_, fun q => ?_⟩⟩
  · have := Int.mul_nonneg (Int.le_of_lt hp) q
    unfold da at this
    rw [h] at this
    exact Int.nonneg_of_mul_nonneg_right this hq
  · have := Int.mul_nonneg (Int.le_of_lt hq) q
    unfold da at this
    rw [← h] at this
    exact Int.nonneg_of_mul_nonneg_right this hp
  · have := Int.mul_pos hp q
    unfold da at this
    rw [h] at this
    exact z_pos_right this hq
  · have := Int.mul_pos hq q
    unfold da at this
    rw [← h] at this
    exact z_pos_right this hp
theorem psd_det : ∀ {n : Nat} {A : Nat → Nat → Int}, Sy n A → (PSD n A → 0 ≤ da n A) ∧ (PD n A → 0 < da n A)
  | 0, A, _ => ⟨fun _ => by show (0 : Int) ≤ 1; decide, fun _ => by show (0 : Int) < 1; decide⟩
  | n + 1, A, hs => by
    have ih := psd_det hs.sch
    rcases Int.lt_or_le 0 (A 0 0) with hp | hp
    · have st := psd_step hs hp
      have cs := chio_sign (n := n) hp
      exact ⟨fun q => cs.1.mp (ih.1 (st.1.mp q)), fun q => cs.2.mp (ih.2 (st.2.mp q))⟩
    · constructor
      · intro q
        have h0 : A 0 0 = 0 := by
          rcases Int.lt_or_le (A 0 0) 0 with w | w
          · exact absurd q (psd_neg hs w)
          · omega
        have hz : ∀ j, j < n + 1 → A 0 j = 0 := fun j hj => by
          cases j with
          | zero => exact h0
          | succ j =>
            apply Classical.byContradiction
            intro w
            exact psd_bad hs h0 (k := j) (by omega) w q
        have : da (n + 1) A = 0 := sm_zero (fun c hc => by
          show sg c * A 0 c * _ = 0
          rw [hz c hc, Int.mul_zero, Int.zero_mul])
        omega
      · intro q
        have := q (fun j => if j = 0 then 1 else 0) ⟨0, by omega, by simp⟩
        rw [qf_first _ hs, qf_zero (c := fun j => if j + 1 = 0 then 1 else 0) (fun i hi => if_neg (by omega)), sm_zero (fun j _ => by rw [if_neg (by omega), Int.zero_mul]), if_pos rfl] at this
        omega
theorem spr_sum {n h : Nat} {d : Nat → Nat} {c : Nat → Int} (hd : ∀ a, a < h → d a < n) (f : Nat → Int) : sm (fun s => sprd h d c s * f s) n = sm (fun a => c a * f (d a)) h := by
  have e : sm (fun s => sprd h d c s * f s) n = sm (fun s => sm (fun a => (if d a = s then c a else 0) * f s) h) n := sm_congr (fun s _ => by
    unfold sprd; rw [sm_mulr])
  rw [e, sm_swap]
  refine sm_congr (fun a ha => ?_)
  rw [sm_one (hd a ha) (fun i _ hi => by rw [if_neg (Ne.symm hi), Int.zero_mul]), if_pos rfl]
theorem qf_sub {n h : Nat} {d : Nat → Nat} {c : Nat → Int} (A : Nat → Nat → Int) (hd : ∀ a, a < h → d a < n) : qf n A (sprd h d c) = qf h (sub A d) c := by
  have e1 : qf n A (sprd h d c) = sm (fun i => sprd h d c i * sm (fun b => c b * A i (d b)) h) n := sm_congr (fun i _ => by
    rw [← spr_sum hd (fun j => A i j), ← sm_mul]
    exact sm_congr (fun j _ => Int.mul_assoc _ _ _))
  rw [e1, spr_sum hd (fun i => sm (fun b => c b * A i (d b)) h)]
  refine sm_congr (fun a _ => ?_)
  rw [← sm_mul]
  exact sm_congr (fun b _ => (Int.mul_assoc _ _ _).symm)
theorem psd_sub {n h : Nat} {d : Nat → Nat} {A : Nat → Nat → Int} (hd : Inc n h d) : (PSD n A → PSD h (sub A d)) ∧ (PD n A → PD h (sub A d)) := by
  constructor
  · intro q c
    rw [← qf_sub A hd.1]; exact q _
  · intro q c hc
    rw [← qf_sub A hd.1]
    obtain ⟨a, ha, ca⟩ := hc
    refine q _ ⟨d a, hd.1 a ha, ?_⟩
    unfold sprd
    rw [sm_one ha (fun b hb hba => if_neg (fun e => by
      rcases Nat.lt_or_gt_of_ne hba with w | w
      · have := hd.2 b a w ha; omega
      · have := hd.2 a b w hb; omega)), if_pos rfl]
    exact ca
theorem Sy.sub {n h : Nat} {d : Nat → Nat} {A : Nat → Nat → Int} (hs : Sy n A) (hd : Inc n h d) : Sy h (sub A d) := fun i j hi hj => hs _ _ (hd.1 i hi) (hd.1 j hj)
def dcons (d : Nat → Nat) : Nat → Nat := fun a => match a with | 0 => 0 | a + 1 => d a + 1
theorem inc_cons {n h : Nat} {d : Nat → Nat} (hd : Inc n h d) : Inc (n + 1) (h + 1) (dcons d) := by
  refine ⟨fun a ha => ?_, fun a b hab hb => ?_⟩
  · cases a with
    | zero => exact Nat.succ_pos n
    | succ a => exact Nat.succ_lt_succ (hd.1 a (by omega))
  · cases b with
    | zero => omega
    | succ b =>
      cases a with
      | zero => exact Nat.succ_pos _
      | succ a => exact Nat.succ_lt_succ (hd.2 a b (by omega) (by omega))
theorem da_one (A : Nat → Nat → Int) : da 1 A = A 0 0 := by
  show 0 + sg 0 * A 0 0 * 1 = A 0 0
  have : sg 0 = 1 := rfl
  rw [this]; omega
theorem da_two (A : Nat → Nat → Int) : da 2 A = A 0 0 * A 1 1 - A 0 1 * A 1 0 := by
  show 0 + sg 0 * A 0 0 * (0 + sg 0 * A 1 1 * 1) + sg 1 * A 0 1 * (0 + sg 0 * A 1 0 * 1) = _
  have : sg 0 = 1 := rfl
  have : sg 1 = -1 := rfl
  grind
theorem minors_psd : ∀ {n : Nat} {A : Nat → Nat → Int}, Sy n A → (∀ h d, 1 ≤ h → Inc n h d → 0 ≤ da h (sub A d)) → PSD n A
  | 0, A, _, _ => fun c => Int.le_refl 0
  | n + 1, A, hs, hm => by
    have h1 := hm 1 (fun _ => 0) (Nat.le_refl _) ⟨fun _ _ => Nat.succ_pos n, fun a b _ _ => by omega⟩
    rw [da_one] at h1
    have h1 : 0 ≤ A 0 0 := h1
    rcases Int.lt_or_le 0 (A 0 0) with hp | hp
    · refine (psd_step hs hp).1.mpr (minors_psd hs.sch (fun h d h0 hd => ?_))
      have := hm (h + 1) (dcons d) (by omega) (inc_cons hd)
      exact (chio_sign (A := sub A (dcons d)) hp).1.mpr this
    · have h0 : A 0 0 = 0 := by omega
      have hz : ∀ j, j < n + 1 → A 0 j = 0 := fun j hj => by
        cases j with
        | zero => exact h0
        | succ j =>
          have h2 := hm 2 (dcons (fun _ => j)) (by omega) ⟨fun a ha => by
            cases a with
            | zero => exact Nat.succ_pos n
            | succ a => exact hj, fun a b hab hb => by
            have : a = 0 := by omega
            have : b = 1 := by omega
            subst a b
            exact Nat.succ_pos j⟩
          rw [da_two] at h2
          have h2 : 0 ≤ A 0 0 * A (j + 1) (j + 1) - A 0 (j + 1) * A (j + 1) 0 := h2
          rw [h0, hs (j + 1) 0 hj (by omega), Int.zero_mul] at h2
          apply Classical.byContradiction
          intro w
          rcases Int.lt_or_gt_of_ne w with w | w
          · have := Int.mul_pos_of_neg_of_neg w w; omega
          · have := Int.mul_pos w w; omega
      refine (psd_zero hs hz).1.mpr (minors_psd hs.shf (fun h d h0 hd => ?_))
      exact hm h (fun a => d a + 1) h0 ⟨fun a ha => Nat.succ_lt_succ (hd.1 a ha), fun a b hab hb => Nat.succ_lt_succ (hd.2 a b hab hb)⟩
theorem minors_pd : ∀ {n : Nat} {A : Nat → Nat → Int}, Sy n A → (∀ h d, 1 ≤ h → Inc n h d → 0 < da h (sub A d)) → PD n A
  | 0, A, _, _ => fun c hc => by obtain ⟨i, hi, _⟩ := hc; omega
  | n + 1, A, hs, hm => by
    have h1 := hm 1 (fun _ => 0) (Nat.le_refl _) ⟨fun _ _ => Nat.succ_pos n, fun a b _ _ => by omega⟩
    rw [da_one] at h1
    have hp : 0 < A 0 0 := h1
    refine (psd_step hs hp).2.mpr (minors_pd hs.sch (fun h d h0 hd => ?_))
    have := hm (h + 1) (dcons d) (by omega) (inc_cons hd)
    exact (chio_sign (A := sub A (dcons d)) hp).2.mpr this
/-- how many members lie below -/
def cn (T : Nat → Bool) : Nat → Nat
  | 0 => 0
  | i + 1 => cn T i + (if T i then 1 else 0)
def En (n : Nat) (T : Nat → Bool) (h : Nat) (d : Nat → Nat) : Prop := Inc n h d ∧ ∀ i, i < n → (T i = true ↔ ∃ a, a < h ∧ d a = i)
theorem En.cnt {n : Nat} {T : Nat → Bool} {h : Nat} {d : Nat → Nat} (e : En n T h d) : ∀ (i a : Nat), i ≤ n → a ≤ h → (∀ b, b < a → d b < i) → (∀ b, a ≤ b → b < h → i ≤ d b) → cn T i = a
  | 0, a, _, _, h1, _ => by
    cases a with
    | zero => rfl
    | succ a => have := h1 0 (by omega); omega
  | i + 1, a, hi, ha, h1, h2 => by
    show cn T i + (if T i then 1 else 0) = a
    by_cases t : T i = true
    · obtain ⟨b, hb, eb⟩ := (e.2 i (by omega)).mp t
      have b1 : b < a := by
        rcases Nat.lt_or_ge b a with w | w
        · exact w
        · have := h2 b w hb; omega
      have b2 : b + 1 = a := by
        rcases Nat.lt_or_ge (b + 1) a with w | w
        · have := e.1.2 b (b + 1) (by omega) (by omega)
          have := h1 (b + 1) w
          omega
        · omega
      rw [if_pos t, e.cnt i b (by omega) (by omega) (fun b' hb' => by have := e.1.2 b' b hb' hb; omega) (fun b' hb' hb2 => by
        rcases Nat.lt_or_ge b b' with w | w
        · have := e.1.2 b b' w hb2; omega
        · have : b' = b := by omega
          subst this; omega)]
      omega
    · have nd : ∀ b, b < h → d b ≠ i := fun b hb w => t ((e.2 i (by omega)).mpr ⟨b, hb, w⟩)
      rw [if_neg t, e.cnt i a (by omega) ha (fun b hb => by have := h1 b hb; have := nd b (by omega); omega) (fun b hb hb2 => by have := h2 b hb hb2; omega)]
      omega
theorem En.at {n : Nat} {T : Nat → Bool} {h : Nat} {d : Nat → Nat} (e : En n T h d) {a : Nat} (ha : a < h) : cn T (d a) = a := e.cnt (d a) a (Nat.le_of_lt (e.1.1 a ha)) (Nat.le_of_lt ha) (fun b hb => e.1.2 b a hb ha) (fun b hb hb2 => by
  rcases Nat.lt_or_ge a b with w | w
  · exact Nat.le_of_lt (e.1.2 a b w hb2)
  · have : b = a := by omega
    subst this; exact Nat.le_refl _)
theorem En.all {n : Nat} {T : Nat → Bool} {h : Nat} {d : Nat → Nat} (e : En n T h d) : cn T n = h := e.cnt n h (Nat.le_refl _) (Nat.le_refl _) (fun b hb => e.1.1 b hb) (fun b hb hb2 => by omega)
theorem cn_le (T : Nat → Bool) : ∀ n, cn T n ≤ n
  | 0 => Nat.le_refl 0
  | n + 1 => by
    have := cn_le T n
    show cn T n + (if T n then 1 else 0) ≤ n + 1
    split <;> omega
theorem en_of (T : Nat → Bool) : ∀ n, ∃ d, En n T (cn T n) d
  | 0 => ⟨fun _ => 0, ⟨⟨fun a ha => by exact absurd ha (Nat.not_lt_zero a), fun a b _ hb => absurd hb (Nat.not_lt_zero b)⟩, fun i hi => absurd hi (Nat.not_lt_zero i)⟩⟩
  | n + 1 => by
    obtain ⟨d, hd⟩ := en_of T n
    by_cases t : T n = true
    · have e : cn T (n + 1) = cn T n + 1 := by show cn T n + (if T n then 1 else 0) = _; rw [if_pos t]
      rw [e]
      refine ⟨fun a => if a < cn T n then d a else n, ⟨⟨fun a ha => ?_, fun a b hab hb => ?_⟩, fun i hi => ?_⟩⟩
      · show (if a < cn T n then d a else n) < n + 1
        split
        · rename_i w; have := hd.1.1 a w; omega
        · omega
      · show (if a < cn T n then d a else n) < (if b < cn T n then d b else n)
        rw [if_pos (by omega)]
        split
        · rename_i w; exact hd.1.2 a b hab w
        · exact hd.1.1 a (by omega)
      · constructor
        · intro ti
          by_cases w : i = n
          · exact ⟨cn T n, by omega, (if_neg (by omega)).trans w.symm⟩
          · obtain ⟨a, ha, ea⟩ := (hd.2 i (by omega)).mp ti
            exact ⟨a, by omega, (if_pos ha).trans ea⟩
        · rintro ⟨a, ha, ea⟩
          have ea : (if a < cn T n then d a else n) = i := ea
          by_cases w : a < cn T n
          · rw [if_pos w] at ea
            exact (hd.2 i (by have := hd.1.1 a w; omega)).mpr ⟨a, w, ea⟩
          · rw [if_neg w] at ea
            rw [← ea]; exact t
    · have e : cn T (n + 1) = cn T n := by show cn T n + (if T n then 1 else 0) = _; rw [if_neg t]; rfl
      rw [e]
      refine ⟨d, ⟨⟨fun a ha => by have := hd.1.1 a ha; omega, hd.1.2⟩, fun i hi => ?_⟩⟩
      by_cases w : i = n
      · subst w
        exact ⟨fun ti => absurd ti t, fun ⟨a, ha, ea⟩ => by have := hd.1.1 a ha; omega⟩
      · exact hd.2 i (by omega)
theorem bits_of {n : Nat} {d : Nat → Nat} : ∀ h, Inc n h d → ∃ s, s < 2 ^ n ∧ (1 ≤ h → 1 ≤ s) ∧ ∀ i, (s.testBit i = true ↔ ∃ a, a < h ∧ d a = i)
  | 0, _ => ⟨0, Nat.two_pow_pos n, fun w => by omega, fun i => by
    rw [Nat.zero_testBit]
    exact ⟨fun w => (by cases w), fun ⟨a, ha, _⟩ => by omega⟩⟩
  | h + 1, hd => by
    obtain ⟨s, s1, _, s2⟩ := bits_of h ⟨fun a ha => hd.1 a (by omega), fun a b hab hb => hd.2 a b hab (by omega)⟩
    have bt : ∀ i, ((s ||| 2 ^ d h).testBit i = true ↔ ∃ a, a < h + 1 ∧ d a = i) := fun i => by
      rw [Nat.testBit_or, Nat.testBit_two_pow, Bool.or_eq_true, s2]
      constructor
      · rintro (⟨a, ha, ea⟩ | w)
        · exact ⟨a, by omega, ea⟩
        · exact ⟨h, by omega, by simpa using w⟩
      · rintro ⟨a, ha, ea⟩
        by_cases w : a < h
        · exact Or.inl ⟨a, w, ea⟩
        · have : a = h := by omega
          subst this
          exact Or.inr (by simpa using ea)
    refine ⟨s ||| 2 ^ d h, Nat.or_lt_two_pow s1 (Nat.pow_lt_pow_right (by omega) (hd.1 h (by omega))), fun _ => ?_, bt⟩
    rcases Nat.eq_zero_or_pos (s ||| 2 ^ d h) with w | w
    · have := (bt (d h)).mpr ⟨h, by omega, rfl⟩
      rw [w, Nat.zero_testBit] at this
      cases this
    · exact w
