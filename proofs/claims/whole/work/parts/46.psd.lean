/-- the form of a square -/
def qf (n : Nat) (A : Nat → Nat → Int) (c : Nat → Int) : Int := sm (fun i => sm (fun j => c i * c j * A i j) n) n
def PSD (n : Nat) (A : Nat → Nat → Int) : Prop := ∀ c, 0 ≤ qf n A c
def PD (n : Nat) (A : Nat → Nat → Int) : Prop := ∀ c, (∃ i, i < n ∧ c i ≠ 0) → 0 < qf n A c
def Sy (n : Nat) (A : Nat → Nat → Int) : Prop := ∀ i j, i < n → j < n → A i j = A j i
def schu (A : Nat → Nat → Int) : Nat → Nat → Int := fun i j => A 0 0 * A (i + 1) (j + 1) - A (i + 1) 0 * A 0 (j + 1)
def shf (A : Nat → Nat → Int) : Nat → Nat → Int := fun i j => A (i + 1) (j + 1)
theorem qf_congr {n : Nat} {A B : Nat → Nat → Int} {c d : Nat → Int} (h : ∀ i j, i < n → j < n → A i j = B i j) (hc : ∀ i, i < n → c i = d i) : qf n A c = qf n B d := sm_congr (fun i hi => sm_congr (fun j hj => by rw [h i j hi hj, hc i hi, hc j hj]))
theorem qf_zero {n : Nat} {A : Nat → Nat → Int} {c : Nat → Int} (h : ∀ i, i < n → c i = 0) : qf n A c = 0 := sm_zero (fun i hi => sm_zero (fun j _ => by rw [h i hi, Int.zero_mul, Int.zero_mul]))
theorem qf_cmul {n : Nat} {A : Nat → Nat → Int} {c : Nat → Int} (p : Int) : qf n A (fun i => p * c i) = p * p * qf n A c := by
  show sm (fun i => sm (fun j => p * c i * (p * c j) * A i j) n) n = p * p * sm (fun i => sm (fun j => c i * c j * A i j) n) n
  rw [← sm_mul]
  refine sm_congr (fun i _ => ?_)
  rw [← sm_mul]
  refine sm_congr (fun j _ => ?_)
  grind
theorem qf_smul {n : Nat} {A B : Nat → Nat → Int} {D : Int} (h : ∀ i j, i < n → j < n → A i j = D * B i j) (c : Nat → Int) : qf n A c = D * qf n B c := by
  show sm (fun i => sm (fun j => c i * c j * A i j) n) n = D * sm (fun i => sm (fun j => c i * c j * B i j) n) n
  rw [← sm_mul]
  refine sm_congr (fun i hi => ?_)
  rw [← sm_mul]
  refine sm_congr (fun j hj => ?_)
  rw [h i j hi hj]
  grind
theorem psd_smul {n : Nat} {A B : Nat → Nat → Int} {D : Int} (hD : 0 < D) (h : ∀ i j, i < n → j < n → A i j = D * B i j) : PSD n A ↔ PSD n B := by
  constructor
  · intro q c
    have := q c
    rw [qf_smul h] at this
    exact Int.nonneg_of_mul_nonneg_right this hD
  · intro q c
    rw [qf_smul h]
    exact Int.mul_nonneg (Int.le_of_lt hD) (q c)
theorem z_pos_right {a b : Int} (h : 0 < a * b) (ha : 0 < a) : 0 < b := by
  rcases Int.lt_or_le 0 b with w | w
  · exact w
  · have := Int.mul_nonpos_of_nonneg_of_nonpos (Int.le_of_lt ha) w
    omega
theorem pd_smul {n : Nat} {A B : Nat → Nat → Int} {D : Int} (hD : 0 < D) (h : ∀ i j, i < n → j < n → A i j = D * B i j) : PD n A ↔ PD n B := by
  constructor
  · intro q c hc
    have := q c hc
    rw [qf_smul h] at this
    exact z_pos_right this hD
  · intro q c hc
    rw [qf_smul h]
    exact Int.mul_pos hD (q c hc)
theorem qf_first {n : Nat} {A : Nat → Nat → Int} (c : Nat → Int) (hs : Sy (n + 1) A) : qf (n + 1) A c = c 0 * c 0 * A 0 0 + 2 * (c 0 * sm (fun j => c (j + 1) * A 0 (j + 1)) n) + qf n (shf A) (fun j => c (j + 1)) := by
  show sm (fun i => sm (fun j => c i * c j * A i j) (n + 1)) (n + 1) = _
  rw [sm_first, sm_first]
  have e1 : sm (fun j => c 0 * c (j + 1) * A 0 (j + 1)) n = c 0 * sm (fun j => c (j + 1) * A 0 (j + 1)) n := by
    rw [← sm_mul]; exact sm_congr (fun j _ => Int.mul_assoc _ _ _)
  have e2 : sm (fun i => sm (fun j => c (i + 1) * c j * A (i + 1) j) (n + 1)) n = c 0 * sm (fun j => c (j + 1) * A 0 (j + 1)) n + qf n (shf A) (fun j => c (j + 1)) := by
    rw [← sm_mul]
    show _ = _ + sm (fun i => sm (fun j => c (i + 1) * c (j + 1) * shf A i j) n) n
    rw [← sm_add]
    refine sm_congr (fun i hi => ?_)
    rw [sm_first, hs (i + 1) 0 (by omega) (by omega)]
    show c (i + 1) * c 0 * A 0 (i + 1) + _ = c 0 * (c (i + 1) * A 0 (i + 1)) + _
    have : c (i + 1) * c 0 * A 0 (i + 1) = c 0 * (c (i + 1) * A 0 (i + 1)) := by grind
    rw [this]
    rfl
  rw [e1, e2]
  omega
theorem qf_sch {n : Nat} {A : Nat → Nat → Int} (c : Nat → Int) (hs : Sy (n + 1) A) : A 0 0 * qf (n + 1) A c = (c 0 * A 0 0 + sm (fun j => c (j + 1) * A 0 (j + 1)) n) * (c 0 * A 0 0 + sm (fun j => c (j + 1) * A 0 (j + 1)) n) + qf n (schu A) (fun j => c (j + 1)) := by
  have e1 : qf n (schu A) (fun j => c (j + 1)) = A 0 0 * qf n (shf A) (fun j => c (j + 1)) - sm (fun j => c (j + 1) * A 0 (j + 1)) n * sm (fun j => c (j + 1) * A 0 (j + 1)) n := by
    show sm (fun i => sm (fun j => c (i + 1) * c (j + 1) * schu A i j) n) n = A 0 0 * sm (fun i => sm (fun j => c (i + 1) * c (j + 1) * shf A i j) n) n - _
    rw [← sm_mul, ← sm_mulr, ← sm_sub]
    refine sm_congr (fun i hi => ?_)
    rw [← sm_mul, ← sm_mul, ← sm_sub]
    refine sm_congr (fun j hj => ?_)
    unfold schu shf
    rw [hs (i + 1) 0 (by omega) (by omega)]
    grind
  rw [qf_first c hs, e1]
  grind
theorem psd_step {n : Nat} {A : Nat → Nat → Int} (hs : Sy (n + 1) A) (hp : 0 < A 0 0) : (PSD (n + 1) A ↔ PSD n (schu A)) ∧ (PD (n + 1) A ↔ PD n (schu A)) := by
  have up : ∀ c : Nat → Int, ∃ d : Nat → Int, (∀ j, d (j + 1) = A 0 0 * c j) ∧ A 0 0 * qf (n + 1) A d = A 0 0 * A 0 0 * qf n (schu A) c := by
    intro c
    refine ⟨fun j => match j with | 0 => -sm (fun j => c j * A 0 (j + 1)) n | j + 1 => A 0 0 * c j, fun j => rfl, ?_⟩
    rw [qf_sch _ hs, qf_cmul]
    have e : sm (fun j => A 0 0 * c j * A 0 (j + 1)) n = A 0 0 * sm (fun j => c j * A 0 (j + 1)) n := by
      rw [← sm_mul]; exact sm_congr (fun j _ => Int.mul_assoc _ _ _)
    show (-sm (fun j => c j * A 0 (j + 1)) n * A 0 0 + sm (fun j => A 0 0 * c j * A 0 (j + 1)) n) * (-sm (fun j => c j * A 0 (j + 1)) n * A 0 0 + sm (fun j => A 0 0 * c j * A 0 (j + 1)) n) + _ = _
    rw [e]
    grind
  refine ⟨⟨fun q c => ?_, fun q c => ?_⟩, ⟨fun q c hc => ?_, fun q c hc => ?_⟩⟩
  · obtain ⟨d, _, e⟩ := up c
    have h1 := Int.mul_nonneg (Int.le_of_lt hp) (q d)
    rw [e] at h1
    exact Int.nonneg_of_mul_nonneg_right h1 (Int.mul_pos hp hp)
  · have h1 := qf_sch c hs
    have h2 := q (fun j => c (j + 1))
    have h3 : 0 ≤ A 0 0 * qf (n + 1) A c := by
      rw [h1]
      exact Int.add_nonneg (by rcases Int.le_total 0 (c 0 * A 0 0 + sm (fun j => c (j + 1) * A 0 (j + 1)) n) with w | w; exact Int.mul_nonneg w w; exact Int.mul_nonneg_of_nonpos_of_nonpos w w) h2
    exact Int.nonneg_of_mul_nonneg_right h3 hp
  · obtain ⟨d, hd, e⟩ := up c
    obtain ⟨i, hi, ci⟩ := hc
    have h1 := Int.mul_pos hp (q d ⟨i + 1, by omega, by rw [hd]; exact Int.mul_ne_zero (by omega) ci⟩)
    rw [e] at h1
    exact z_pos_right h1 (Int.mul_pos hp hp)
  · have h1 := qf_sch c hs
    have sq : ∀ x : Int, 0 ≤ x * x := fun x => by rcases Int.le_total 0 x with w | w; exact Int.mul_nonneg w w; exact Int.mul_nonneg_of_nonpos_of_nonpos w w
    by_cases w : ∃ i, i < n ∧ c (i + 1) ≠ 0
    · have h2 := q (fun j => c (j + 1)) w
      have h3 : 0 < A 0 0 * qf (n + 1) A c := by
        rw [h1]
        have := sq (c 0 * A 0 0 + sm (fun j => c (j + 1) * A 0 (j + 1)) n)
        omega
      exact z_pos_right h3 hp
    · have w2 : ∀ i, i < n → c (i + 1) = 0 := fun i hi => by
        apply Classical.byContradiction
        intro e
        exact w ⟨i, hi, e⟩
      obtain ⟨i, hi, ci⟩ := hc
      cases i with
      | succ i => exact absurd (w2 i (by omega)) ci
      | zero =>
        rw [qf_zero w2, sm_zero (fun j hj => by rw [w2 j hj, Int.zero_mul]), Int.add_zero, Int.add_zero] at h1
        have h4 : c 0 * A 0 0 ≠ 0 := Int.mul_ne_zero ci (by omega)
        have h5 : 0 < c 0 * A 0 0 * (c 0 * A 0 0) := by
          rcases Int.lt_or_gt_of_ne h4 with w | w
          · exact Int.mul_pos_of_neg_of_neg w w
          · exact Int.mul_pos w w
        rw [← h1] at h5
        exact z_pos_right h5 hp
theorem psd_zero {n : Nat} {A : Nat → Nat → Int} (hs : Sy (n + 1) A) (hz : ∀ j, j < n + 1 → A 0 j = 0) : (PSD (n + 1) A ↔ PSD n (shf A)) ∧ ¬ PD (n + 1) A := by
  have e : ∀ c, qf (n + 1) A c = qf n (shf A) (fun j => c (j + 1)) := fun c => by
    rw [qf_first c hs, hz 0 (by omega), sm_zero (fun j hj => by rw [hz (j + 1) (by omega), Int.mul_zero])]
    omega
  refine ⟨⟨fun q c => ?_, fun q c => ?_⟩, fun q => ?_⟩
  · have := q (fun j => match j with | 0 => 0 | j + 1 => c j)
    rw [e] at this
    exact this
  · rw [e]; exact q _
  · have := q (fun j => if j = 0 then 1 else 0) ⟨0, by omega, by simp⟩
    rw [e, qf_zero (fun i hi => if_neg (by omega))] at this
    omega
theorem psd_neg {n : Nat} {A : Nat → Nat → Int} (hs : Sy (n + 1) A) (hp : A 0 0 < 0) : ¬ PSD (n + 1) A := by
  intro q
  have := q (fun j => if j = 0 then 1 else 0)
  rw [qf_first _ hs, qf_zero (c := fun j => if j + 1 = 0 then 1 else 0) (fun i hi => if_neg (by omega)), sm_zero (fun j _ => by rw [if_neg (by omega), Int.zero_mul]), if_pos rfl] at this
  omega
theorem psd_bad {n k : Nat} {A : Nat → Nat → Int} (hs : Sy (n + 1) A) (h0 : A 0 0 = 0) (hk : k < n) (hne : A 0 (k + 1) ≠ 0) : ¬ PSD (n + 1) A := by
  intro q
  have key : ∀ t : Int, 0 ≤ 2 * (t * A 0 (k + 1)) + A (k + 1) (k + 1) := fun t => by
    have h1 := q (fun j => if j = 0 then t else if j = k + 1 then 1 else 0)
    rw [qf_first _ hs, h0, Int.mul_zero, if_pos rfl] at h1
    have e1 : sm (fun j => (if j + 1 = 0 then t else if j + 1 = k + 1 then 1 else 0) * A 0 (j + 1)) n = A 0 (k + 1) := by
      rw [sm_one hk (fun i _ hi => by rw [if_neg (by omega), if_neg (by omega), Int.zero_mul]), if_neg (by omega), if_pos rfl, Int.one_mul]
    have e2 : qf n (shf A) (fun j => if j + 1 = 0 then t else if j + 1 = k + 1 then 1 else 0) = A (k + 1) (k + 1) := by
      show sm (fun i => sm (fun j => (if i + 1 = 0 then t else if i + 1 = k + 1 then 1 else 0) * (if j + 1 = 0 then t else if j + 1 = k + 1 then 1 else 0) * shf A i j) n) n = _
      rw [sm_one hk (fun i _ hi => sm_zero (fun j _ => by rw [if_neg (by omega), if_neg (by omega), Int.zero_mul, Int.zero_mul]))]
      rw [sm_one hk (fun i _ hi => by rw [if_neg (c := i + 1 = 0) (by omega), if_neg (c := i + 1 = k + 1) (by omega), Int.mul_zero, Int.zero_mul]), if_neg (by omega), if_pos rfl]
      show 1 * 1 * A (k + 1) (k + 1) = _
      omega
    rw [e1, e2] at h1
    omega
  have h2 := key (-(((A (k + 1) (k + 1)).natAbs : Int) + 1) * A 0 (k + 1))
  have h3 : 1 ≤ A 0 (k + 1) * A 0 (k + 1) := by
    rcases Int.lt_or_gt_of_ne hne with w | w
    · have := Int.mul_pos_of_neg_of_neg w w; omega
    · have := Int.mul_pos w w; omega
  have h4 : (((A (k + 1) (k + 1)).natAbs : Int) + 1) * 1 ≤ (((A (k + 1) (k + 1)).natAbs : Int) + 1) * (A 0 (k + 1) * A 0 (k + 1)) := Int.mul_le_mul_of_nonneg_left h3 (by omega)
  rw [Int.mul_assoc, Int.neg_mul] at h2
  omega
/-- one step of condensation -/
theorem chio {n : Nat} (A : Nat → Nat → Int) : A 0 0 * dt n (fun j i => schu A i j) = A 0 0 ^ n * dt (n + 1) (fun j i => A i j) := by
  have st : ∀ k, k ≤ n → dt (n + 1) (fun j i => if j = 0 then A i 0 else if j ≤ k then A 0 0 * A i j - A 0 j * A i 0 else A i j) = A 0 0 ^ k * dt (n + 1) (fun j i => A i j) := by
    intro k
    induction k with
    | zero =>
      intro _
      rw [Int.pow_zero, Int.one_mul]
      refine dt_congr (fun c r _ _ => ?_)
      by_cases h : c = 0
      · rw [if_pos h, h]
      · rw [if_neg h, if_neg (by omega)]
    | succ k ih =>
      intro hk
      have ih := ih (by omega)
      obtain ⟨b, hb⟩ : ∃ b : Nat → Nat → Int, b = (fun j i => if j = 0 then A i 0 else if j ≤ k then A 0 0 * A i j - A 0 j * A i 0 else A i j) := ⟨_, rfl⟩
      rw [← hb] at ih
      have e1 : dt (n + 1) (fun j i => if j = 0 then A i 0 else if j ≤ k + 1 then A 0 0 * A i j - A 0 j * A i 0 else A i j) = dt (n + 1) (cu b (k + 1) (fun r => A 0 0 * b (k + 1) r + (-A 0 (k + 1)) * b 0 r)) := by
        refine dt_congr (fun c r _ _ => ?_)
        by_cases h : c = k + 1
        · subst h
          rw [cu_self, if_neg (by omega), if_pos (Nat.le_refl _), hb]
          show _ = A 0 0 * (if k + 1 = 0 then A r 0 else if k + 1 ≤ k then _ else A r (k + 1)) + -A 0 (k + 1) * (if 0 = 0 then A r 0 else _)
          rw [if_neg (by omega), if_neg (by omega), if_pos rfl, Int.neg_mul, Int.sub_eq_add_neg]
        · rw [cu_ne _ _ h, hb]
          by_cases h0 : c = 0
          · show (if c = 0 then A r 0 else _) = if c = 0 then A r 0 else _
            rw [if_pos h0, if_pos h0]
          · show (if c = 0 then A r 0 else if c ≤ k + 1 then _ else _) = if c = 0 then A r 0 else if c ≤ k then _ else _
            rw [if_neg h0, if_neg h0]
            by_cases h1 : c ≤ k
            · rw [if_pos h1, if_pos (by omega)]
            · rw [if_neg h1, if_neg (by omega)]
      rw [e1, dt_lin _ _ b (by omega), cu_id, ih, dt_eq (i := 0) (j := k + 1) (cu b (k + 1) (b 0)) (by omega) (by omega) (by omega) (fun r _ => by rw [cu_ne _ _ (by omega), cu_self]), Int.mul_zero, Int.add_zero, ← Int.mul_assoc, Int.pow_succ, Int.mul_comm (A 0 0)]
  rw [← st n (Nat.le_refl _)]
  show _ = sm (fun c => sg c * (if c = 0 then A 0 0 else if c ≤ n then A 0 0 * A 0 c - A 0 c * A 0 0 else A 0 c) * dt n (mi _ c)) (n + 1)
  rw [sm_one (k := 0) (by omega) (fun i hi hi0 => by rw [if_neg hi0, if_pos (by omega), Int.mul_comm (A 0 0), Int.sub_self, Int.mul_zero, Int.zero_mul]), if_pos rfl]
  have : sg 0 = 1 := rfl
  rw [this, Int.one_mul]
  congr 1
  refine dt_congr (fun c r hc _ => ?_)
  show schu A r c = (if (if c < 0 then c else c + 1) = 0 then A (r + 1) 0 else if (if c < 0 then c else c + 1) ≤ n then A 0 0 * A (r + 1) (if c < 0 then c else c + 1) - A 0 (if c < 0 then c else c + 1) * A (r + 1) 0 else A (r + 1) (if c < 0 then c else c + 1))
  rw [if_neg (Nat.not_lt_zero c), if_neg (by omega), if_pos (by omega)]
  unfold schu
  rw [Int.mul_comm (A 0 (c + 1))]
