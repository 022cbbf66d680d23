/-! numbers in parts of nine digits -/
def pw (n : Nat) : Int := 1000000000 ^ n
theorem pw_0 : pw 0 = 1 := rfl
theorem pw_s (n : Nat) : pw (n + 1) = pw n * 1000000000 := Int.pow_succ _ _
theorem pw_pos (n : Nat) : 0 < pw n := Int.pow_pos (by decide)
theorem pw_add (m n : Nat) : pw (m + n) = pw m * pw n := Int.pow_add _ _ _
theorem pw_mono {m n : Nat} (h : m ≤ n) : pw m ≤ pw n := by
  obtain ⟨k, rfl⟩ := Nat.exists_eq_add_of_le h
  rw [pw_add]
  have h1 := pw_pos m
  have h2 := pw_pos k
  have := Int.mul_le_mul_of_nonneg_left (show (1 : Int) ≤ pw k from h2) (Int.le_of_lt h1)
  omega
def dv (f : Int → Int) : Nat → Int
  | 0 => 0
  | n + 1 => dv f n + f n * pw n
def dg (f : Int → Int) (n : Nat) : Prop := ∀ i : Int, 0 ≤ i → i < n → 0 ≤ f i ∧ f i < 1000000000
theorem dg.mono {f : Int → Int} {m n : Nat} (h : dg f n) (hm : m ≤ n) : dg f m := fun i h0 h1 => h i h0 (by omega)
theorem dv_s (f : Int → Int) (n : Nat) : dv f (n + 1) = dv f n + f n * pw n := rfl
theorem dv_congr {f g : Int → Int} : ∀ {n : Nat}, (∀ i : Int, 0 ≤ i → i < n → f i = g i) → dv f n = dv g n
  | 0, _ => rfl
  | n + 1, h => by
    rw [dv_s, dv_s, dv_congr (fun i h0 h1 => h i h0 (by omega)), h n (by omega) (by omega)]
theorem dv_rng {f : Int → Int} : ∀ {n : Nat}, dg f n → 0 ≤ dv f n ∧ dv f n < pw n
  | 0, _ => ⟨Int.le_refl 0, show (0 : Int) < 1 by decide⟩
  | n + 1, h => by
    have ih := dv_rng (h.mono (Nat.le_succ n))
    obtain ⟨h0, h1⟩ := h n (by omega) (by omega)
    have hp := pw_pos n
    rw [dv_s, pw_s]
    have a1 : 0 ≤ f n * pw n := Int.mul_nonneg h0 (Int.le_of_lt hp)
    have a2 : f n * pw n ≤ 999999999 * pw n := Int.mul_le_mul_of_nonneg_right (by omega) (Int.le_of_lt hp)
    omega
theorem dv_zero {f : Int → Int} {m n : Nat} (hm : m ≤ n) (h : ∀ i : Int, m ≤ i → i < n → f i = 0) : dv f n = dv f m := by
  induction n with
  | zero => rw [show m = 0 by omega]
  | succ n ih =>
    by_cases hmn : m = n + 1
    · rw [hmn]
    · rw [dv_s, ih (by omega) (fun i h0 h1 => h i h0 (by omega)), h n (by omega) (by omega), Int.zero_mul, Int.add_zero]
/-- one part changed -/
def fu (f : Int → Int) (k x : Int) : Int → Int := fun i => if i = k then x else f i
theorem fu_s (f : Int → Int) (k x : Int) : fu f k x k = x := by simp [fu]
theorem fu_n (f : Int → Int) {k i : Int} (x : Int) (h : i ≠ k) : fu f k x i = f i := by simp [fu, h]
theorem z_up_row (σ : ZM) (a i x : Int) : z_up σ a i x a = fu (σ a) i x := by
  funext j
  simp [z_up, fu]
theorem z_up_far (σ : ZM) {a c : Int} (i x : Int) (h : c ≠ a) : z_up σ a i x c = σ c := by
  funext j
  rw [z_up_ne]
  exact Or.inl h
theorem dv_fu_out {f : Int → Int} {n : Nat} {k x : Int} (h : n ≤ k) : dv (fu f k x) n = dv f n := dv_congr (fun i _ h1 => fu_n f x (by omega))
theorem dv_fu {f : Int → Int} {n k : Nat} {x : Int} (h : k < n) : dv (fu f k x) n = dv f n + (x - f k) * pw k := by
  induction n with
  | zero => omega
  | succ n ih =>
    rw [dv_s, dv_s]
    by_cases hk : k = n
    · subst hk
      rw [dv_fu_out (Int.le_refl _), fu_s, Int.sub_mul]
      omega
    · rw [ih (by omega), fu_n f x (by omega)]
      omega
theorem dg_fu {f : Int → Int} {n : Nat} {k x : Int} (h : dg f n) (h0 : 0 ≤ x) (h1 : x < 1000000000) : dg (fu f k x) n := by
  intro i hi hn
  by_cases hk : i = k
  · subst hk; rw [fu_s]; exact ⟨h0, h1⟩
  · rw [fu_n f x hk]; exact h i hi hn
theorem dv_inj {f g : Int → Int} : ∀ {n : Nat}, dg f n → dg g n → dv f n = dv g n → ∀ i : Int, 0 ≤ i → i < n → f i = g i
  | 0, _, _, _, i, h0, h1 => absurd h1 (by omega)
  | n + 1, hf, hg, he, i, h0, h1 => by
    have rf := dv_rng (hf.mono (Nat.le_succ n))
    have rg := dv_rng (hg.mono (Nat.le_succ n))
    rw [dv_s, dv_s] at he
    have hp := pw_pos n
    have key : f n = g n := by
      rcases Int.lt_trichotomy (f n) (g n) with h | h | h
      · have := Int.mul_le_mul_of_nonneg_right (show f n + 1 ≤ g n from h) (Int.le_of_lt hp)
        rw [Int.add_mul, Int.one_mul] at this
        omega
      · exact h
      · have := Int.mul_le_mul_of_nonneg_right (show g n + 1 ≤ f n from h) (Int.le_of_lt hp)
        rw [Int.add_mul, Int.one_mul] at this
        omega
    by_cases hi : i = n
    · subst hi; exact key
    · rw [key] at he
      exact dv_inj (hf.mono (Nat.le_succ n)) (hg.mono (Nat.le_succ n)) (by omega) i h0 (by omega)
/-- the highest part that differs decides -/
theorem dv_lt {f g : Int → Int} {n k : Nat} (hf : dg f n) (hg : dg g n) (hk : k < n) (he : ∀ i : Int, k < i → i < n → f i = g i) (h : f k < g k) : dv f n < dv g n := by
  induction n with
  | zero => omega
  | succ n ih =>
    have rf := dv_rng (hf.mono (Nat.le_succ n))
    have rg := dv_rng (hg.mono (Nat.le_succ n))
    rw [dv_s, dv_s]
    by_cases hkn : k = n
    · subst hkn
      have := Int.mul_le_mul_of_nonneg_right (show f k + 1 ≤ g k from h) (Int.le_of_lt (pw_pos k))
      rw [Int.add_mul, Int.one_mul] at this
      omega
    · have := ih (hf.mono (Nat.le_succ n)) (hg.mono (Nat.le_succ n)) (by omega) (fun i h0 h1 => he i h0 (by omega))
      rw [he n (by omega) (by omega)]
      omega
theorem dv_pos {f : Int → Int} {n : Nat} {k : Nat} (hf : dg f n) (hk : k < n) (h : f k ≠ 0) : pw k ≤ dv f n := by
  induction n with
  | zero => omega
  | succ n ih =>
    have rf := dv_rng (hf.mono (Nat.le_succ n))
    obtain ⟨h0, h1⟩ := hf n (by omega) (by omega)
    have hp := pw_pos n
    have a1 : 0 ≤ f n * pw n := Int.mul_nonneg h0 (Int.le_of_lt hp)
    rw [dv_s]
    by_cases hkn : k = n
    · subst hkn
      have := Int.mul_le_mul_of_nonneg_right (show 1 ≤ f k by omega) (Int.le_of_lt hp)
      rw [Int.one_mul] at this
      omega
    · have := ih (hf.mono (Nat.le_succ n)) (by omega)
      omega
/-- floor out of what the JVM's division leaves -/
theorem fl_a {v : Int} (h : 0 ≤ v - Int.tdiv v 1000000000 * 1000000000) : Int.tdiv v 1000000000 = v / 1000000000 ∧ v - Int.tdiv v 1000000000 * 1000000000 = v % 1000000000 := by
  rcases Int.lt_or_le v 0 with hv | hv
  · obtain ⟨q, r, e1, e2, e3, e4, e5, e6⟩ := z_tdiv_neg hv (show (0 : Int) < 1000000000 by decide)
    rw [e5] at h ⊢
    omega
  · rw [Int.tdiv_eq_ediv_of_nonneg hv]
    omega
theorem fl_b {v : Int} (h : ¬ 0 ≤ v - Int.tdiv v 1000000000 * 1000000000) : Int.tdiv v 1000000000 - 1 = v / 1000000000 ∧ v - Int.tdiv v 1000000000 * 1000000000 + 1000000000 = v % 1000000000 := by
  rcases Int.lt_or_le v 0 with hv | hv
  · obtain ⟨q, r, e1, e2, e3, e4, e5, e6⟩ := z_tdiv_neg hv (show (0 : Int) < 1000000000 by decide)
    rw [e5] at h ⊢
    omega
  · rw [Int.tdiv_eq_ediv_of_nonneg hv] at h
    omega
theorem fl_r (v : Int) : r64 v → r64 (v - Int.tdiv v 1000000000 * 1000000000) := fun hv => by
  by_cases h : 0 ≤ v - Int.tdiv v 1000000000 * 1000000000
  · have := (fl_a h).2; omega
  · have := (fl_b h).2; omega
