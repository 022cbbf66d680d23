/-! sums and determinants over whole numbers; a matrix is its columns: b c r -/
def sm (f : Nat → Int) : Nat → Int
  | 0 => 0
  | n + 1 => sm f n + f n
theorem sm_congr {f g : Nat → Int} : ∀ {n : Nat}, (∀ i, i < n → f i = g i) → sm f n = sm g n
  | 0, _ => rfl
  | n + 1, h => by
    show sm f n + f n = sm g n + g n
    rw [sm_congr (fun i hi => h i (Nat.lt_succ_of_lt hi)), h n (Nat.lt_succ_self n)]
theorem sm_zero {f : Nat → Int} {n : Nat} (h : ∀ i, i < n → f i = 0) : sm f n = 0 := by
  induction n with
  | zero => rfl
  | succ n ih =>
    show sm f n + f n = 0
    rw [ih (fun i hi => h i (Nat.lt_succ_of_lt hi)), h n (Nat.lt_succ_self n)]
    rfl
theorem sm_add (f g : Nat → Int) (n : Nat) : sm (fun i => f i + g i) n = sm f n + sm g n := by
  induction n with
  | zero => rfl
  | succ n ih =>
    show sm (fun i => f i + g i) n + (f n + g n) = (sm f n + f n) + (sm g n + g n)
    rw [ih]; omega
theorem sm_sub (f g : Nat → Int) (n : Nat) : sm (fun i => f i - g i) n = sm f n - sm g n := by
  induction n with
  | zero => rfl
  | succ n ih =>
    show sm (fun i => f i - g i) n + (f n - g n) = (sm f n + f n) - (sm g n + g n)
    rw [ih]; omega
theorem sm_mul (x : Int) (f : Nat → Int) (n : Nat) : sm (fun i => x * f i) n = x * sm f n := by
  induction n with
  | zero => exact (Int.mul_zero x).symm
  | succ n ih =>
    show sm (fun i => x * f i) n + x * f n = x * (sm f n + f n)
    rw [ih, Int.mul_add]
theorem sm_mulr (x : Int) (f : Nat → Int) (n : Nat) : sm (fun i => f i * x) n = sm f n * x := by
  rw [Int.mul_comm, ← sm_mul]
  exact sm_congr (fun i _ => Int.mul_comm _ _)
theorem sm_neg (f : Nat → Int) (n : Nat) : sm (fun i => -f i) n = -sm f n := by
  have h := sm_mul (-1) f n
  rw [Int.neg_one_mul] at h
  rw [← h]
  exact sm_congr (fun i _ => (Int.neg_one_mul _).symm)
theorem sm_one {f : Nat → Int} {n k : Nat} (hk : k < n) (h : ∀ i, i < n → i ≠ k → f i = 0) : sm f n = f k := by
  induction n with
  | zero => omega
  | succ n ih =>
    show sm f n + f n = f k
    by_cases hkn : k = n
    · subst hkn
      rw [sm_zero (fun i hi => h i (by omega) (by omega)), Int.zero_add]
    · rw [ih (by omega) (fun i hi hik => h i (by omega) hik), h n (by omega) (by omega), Int.add_zero]
theorem sm_two {f : Nat → Int} {n k l : Nat} (hk : k < n) (hl : l < n) (hkl : k ≠ l) (h : ∀ i, i < n → i ≠ k → i ≠ l → f i = 0) : sm f n = f k + f l := by
  have e : sm f n = sm (fun i => (if i = k then f i else 0) + (if i = k then 0 else f i)) n := sm_congr (fun i _ => by
    by_cases hi : i = k <;> simp [hi])
  rw [e, sm_add, sm_one hk (fun i hi hik => by simp [hik]), sm_one hl (fun i hi hil => by
    by_cases hik : i = k
    · simp [hik]
    · simp [hik, h i hi hik hil])]
  simp [Ne.symm hkl]
theorem sm_swap (f : Nat → Nat → Int) (n m : Nat) : sm (fun i => sm (fun j => f i j) m) n = sm (fun j => sm (fun i => f i j) n) m := by
  induction n with
  | zero => exact (sm_zero (fun i _ => rfl)).symm
  | succ n ih =>
    show sm (fun i => sm (fun j => f i j) m) n + sm (fun j => f n j) m = sm (fun j => sm (fun i => f i j) n + f n j) m
    rw [sm_add, ih]
def sg (c : Nat) : Int := if c % 2 = 0 then 1 else -1
theorem sg_succ (c : Nat) : sg (c + 1) = -sg c := by
  unfold sg
  rcases Nat.mod_two_eq_zero_or_one c with h | h
  · rw [if_pos h, if_neg (by omega)]
  · have h2 : ¬ c % 2 = 0 := by omega
    have h3 : (c + 1) % 2 = 0 := by omega
    rw [if_neg h2, if_pos h3]; rfl
def mi (b : Nat → Nat → Int) (c : Nat) : Nat → Nat → Int := fun j r => b (if j < c then j else j + 1) (r + 1)
def dt : Nat → (Nat → Nat → Int) → Int
  | 0, _ => 1
  | n + 1, b => sm (fun c => sg c * b c 0 * dt n (mi b c)) (n + 1)
theorem dt_congr : ∀ {n : Nat} {b b' : Nat → Nat → Int}, (∀ c r, c < n → r < n → b c r = b' c r) → dt n b = dt n b'
  | 0, _, _, _ => rfl
  | n + 1, b, b', h => by
    show sm _ (n + 1) = sm _ (n + 1)
    refine sm_congr (fun c hc => ?_)
    rw [h c 0 hc (Nat.succ_pos n), dt_congr (n := n) (b := mi b c) (b' := mi b' c) (fun j r hj hr => ?_)]
    unfold mi
    exact h _ _ (by split <;> omega) (by omega)
def cu (b : Nat → Nat → Int) (k : Nat) (v : Nat → Int) : Nat → Nat → Int := fun c r => if c = k then v r else b c r
theorem cu_self (b : Nat → Nat → Int) (k : Nat) (v : Nat → Int) : cu b k v k = v := by funext r; simp [cu]
theorem cu_ne (b : Nat → Nat → Int) {k c : Nat} (v : Nat → Int) (h : c ≠ k) : cu b k v c = b c := by funext r; simp [cu, h]
theorem cu_cu (b : Nat → Nat → Int) (k : Nat) (u v : Nat → Int) : cu (cu b k u) k v = cu b k v := by
  funext c r
  by_cases h : c = k <;> simp [cu, h]
theorem cu_comm (b : Nat → Nat → Int) {k l : Nat} (h : k ≠ l) (u v : Nat → Int) : cu (cu b k u) l v = cu (cu b l v) k u := by
  funext c r
  by_cases h1 : c = k
  · subst h1; simp [cu, h]
  · simp [cu, h1]
theorem cu_id (b : Nat → Nat → Int) (k : Nat) : cu b k (b k) = b := by
  funext c r
  by_cases h : c = k <;> simp [cu, h]
theorem mi_self (b : Nat → Nat → Int) (k : Nat) (v : Nat → Int) : mi (cu b k v) k = mi b k := by
  funext j r
  unfold mi cu
  rw [if_neg (by split <;> omega)]
theorem mi_ne (b : Nat → Nat → Int) {k c : Nat} (v : Nat → Int) (h : c ≠ k) : mi (cu b k v) c = cu (mi b c) (if k < c then k else k - 1) (fun r => v (r + 1)) := by
  funext j r
  simp only [mi, cu]
  by_cases hj : j < c
  · rw [if_pos hj]
    by_cases hk : k < c
    · rw [if_pos hk]
    · rw [if_neg hk, if_neg (by omega), if_neg (by omega)]
  · rw [if_neg hj]
    by_cases hk : k < c
    · rw [if_pos hk, if_neg (by omega), if_neg (by omega)]
    · rw [if_neg hk]
      by_cases hjk : j + 1 = k
      · rw [if_pos hjk, if_pos (by omega)]
      · rw [if_neg hjk, if_neg (by omega)]
theorem dt_lin (x y : Int) : ∀ {n : Nat} (b : Nat → Nat → Int) {k : Nat}, k < n → ∀ (u v : Nat → Int), dt n (cu b k (fun r => x * u r + y * v r)) = x * dt n (cu b k u) + y * dt n (cu b k v)
  | 0, _, _, h => absurd h (Nat.not_lt_zero _)
  | n + 1, b, k, hk => by
    intro u v
    show sm _ (n + 1) = x * sm _ (n + 1) + y * sm _ (n + 1)
    rw [← sm_mul, ← sm_mul, ← sm_add]
    refine sm_congr (fun c hc => ?_)
    by_cases h : c = k
    · subst h
      rw [mi_self, mi_self, mi_self]
      simp only [cu_self]
      rw [Int.mul_add, Int.add_mul]
      congr 1
      · rw [Int.mul_left_comm (sg c) x, Int.mul_assoc x]
      · rw [Int.mul_left_comm (sg c) y, Int.mul_assoc y]
    · rw [mi_ne _ _ h, mi_ne _ _ h, mi_ne _ _ h, cu_ne _ _ h, cu_ne _ _ h, cu_ne _ _ h]
      rw [dt_lin x y (mi b c) (k := if k < c then k else k - 1) (by split <;> omega) (fun r => u (r + 1)) (fun r => v (r + 1))]
      rw [Int.mul_add]
      congr 1
      · rw [Int.mul_left_comm]
      · rw [Int.mul_left_comm]
theorem dt_adj : ∀ {n : Nat} (b : Nat → Nat → Int) {k : Nat}, k + 1 < n → (∀ r, r < n → b k r = b (k + 1) r) → dt n b = 0
  | 0, _, _, h, _ => absurd h (Nat.not_lt_zero _)
  | n + 1, b, k, hk, he => by
    show sm _ (n + 1) = 0
    rw [sm_two (k := k) (l := k + 1) (by omega) hk (by omega) (fun c hc h1 h2 => ?_)]
    · rw [sg_succ, he 0 (Nat.succ_pos n), dt_congr (n := n) (b := mi b k) (b' := mi b (k + 1)) (fun j r hj hr => ?_)]
      · rw [Int.neg_mul, Int.neg_mul]; omega
      · unfold mi
        by_cases h1 : j < k
        · rw [if_pos h1, if_pos (by omega)]
        · rw [if_neg h1]
          by_cases h2 : j = k
          · subst h2
            rw [if_pos (by omega)]
            exact (he (r + 1) (by omega)).symm
          · rw [if_neg (by omega)]
    · rw [dt_adj (n := n) (mi b c) (k := if k < c then k else k - 1) (by split <;> omega) (fun r hr => ?_), Int.mul_zero]
      unfold mi
      by_cases h3 : k < c
      · rw [if_pos h3, if_pos h3, if_pos (by omega)]
        exact he (r + 1) (by omega)
      · rw [if_neg h3, if_neg (by omega), if_neg (by omega), show k - 1 + 1 = k by omega]
        exact he (r + 1) (by omega)
theorem dt_add {n k : Nat} (b : Nat → Nat → Int) (hk : k < n) (u v : Nat → Int) : dt n (cu b k (fun r => u r + v r)) = dt n (cu b k u) + dt n (cu b k v) := by
  have h := dt_lin 1 1 b hk u v
  simp only [Int.one_mul] at h
  exact h
theorem dt_smul {n k : Nat} (b : Nat → Nat → Int) (hk : k < n) (x : Int) (u : Nat → Int) : dt n (cu b k (fun r => x * u r)) = x * dt n (cu b k u) := by
  have h := dt_lin x 0 b hk u u
  simp only [Int.zero_mul, Int.add_zero] at h
  exact h
/-- two columns trade places -/
theorem dt_sw1 {n k : Nat} (b : Nat → Nat → Int) (hk : k + 1 < n) (u v : Nat → Int) : dt n (cu (cu b k u) (k + 1) v) = -dt n (cu (cu b k v) (k + 1) u) := by
  have z : ∀ w : Nat → Int, dt n (cu (cu b k w) (k + 1) w) = 0 := fun w => dt_adj _ hk (fun r _ => by
    rw [cu_self, cu_ne _ _ (by omega), cu_self])
  have h0 := z (fun r => u r + v r)
  have hij : k ≠ k + 1 := by omega
  have hi : k < n := by omega
  have e1 : dt n (cu (cu b k (fun r => u r + v r)) (k + 1) (fun r => u r + v r)) = dt n (cu (cu b k u) (k + 1) (fun r => u r + v r)) + dt n (cu (cu b k v) (k + 1) (fun r => u r + v r)) := by
    rw [cu_comm _ hij, dt_add _ hi, ← cu_comm _ hij, ← cu_comm _ hij]
  rw [e1, dt_add _ hk, dt_add _ hk, z u, z v] at h0
  omega
theorem dt_eqc {n : Nat} : ∀ (d i : Nat) (b : Nat → Nat → Int), i + d + 1 < n → (∀ r, r < n → b i r = b (i + d + 1) r) → dt n b = 0
  | 0, i, b, hj, he => dt_adj b hj he
  | d + 1, i, b, hj, he => by
    have e : b = cu (cu b (i + d + 1) (b (i + d + 1))) (i + d + 1 + 1) (b (i + d + 1 + 1)) := by rw [cu_id, cu_id]
    have hj' : i + d + 1 + 1 < n := hj
    rw [e, dt_sw1 _ hj', dt_eqc d i _ (by omega) (fun r hr => ?_)]
    · rfl
    · rw [cu_ne _ _ (by omega), cu_ne _ _ (by omega), cu_ne _ _ (by omega), cu_self]
      exact he r hr
theorem dt_eq {n i j : Nat} (b : Nat → Nat → Int) (hi : i < n) (hj : j < n) (hij : i ≠ j) (he : ∀ r, r < n → b i r = b j r) : dt n b = 0 := by
  rcases Nat.lt_or_ge i j with h | h
  · have e : j = i + (j - i - 1) + 1 := by omega
    exact dt_eqc (j - i - 1) i b (by omega) (fun r hr => by rw [← e]; exact he r hr)
  · have e : i = j + (i - j - 1) + 1 := by omega
    exact dt_eqc (i - j - 1) j b (by omega) (fun r hr => by rw [← e]; exact (he r hr).symm)
theorem dt_sw {n i j : Nat} (b : Nat → Nat → Int) (hi : i < n) (hj : j < n) (hij : i ≠ j) (u v : Nat → Int) : dt n (cu (cu b i u) j v) = -dt n (cu (cu b i v) j u) := by
  have z : ∀ w : Nat → Int, dt n (cu (cu b i w) j w) = 0 := fun w => dt_eq _ hi hj hij (fun r _ => by
    rw [cu_self, cu_ne _ _ hij, cu_self])
  have h0 := z (fun r => u r + v r)
  have e1 : dt n (cu (cu b i (fun r => u r + v r)) j (fun r => u r + v r)) = dt n (cu (cu b i u) j (fun r => u r + v r)) + dt n (cu (cu b i v) j (fun r => u r + v r)) := by
    rw [cu_comm _ hij, dt_add _ hi, ← cu_comm _ hij, ← cu_comm _ hij]
  rw [e1, dt_add _ hj, dt_add _ hj, z u, z v] at h0
  omega
/-- a column that is a sum of columns -/
theorem dt_sum {n k : Nat} (b : Nat → Nat → Int) (hk : k < n) (x : Nat → Int) (w : Nat → Nat → Int) : ∀ m : Nat, dt n (cu b k (fun r => sm (fun l => x l * w l r) m)) = sm (fun l => x l * dt n (cu b k (w l))) m
  | 0 => by
    have h := dt_smul b hk 0 (fun _ => 0)
    simp only [Int.zero_mul] at h
    exact h
  | m + 1 => by
    show dt n (cu b k (fun r => sm (fun l => x l * w l r) m + x m * w m r)) = sm (fun l => x l * dt n (cu b k (w l))) m + x m * dt n (cu b k (w m))
    rw [dt_add b hk, dt_sum b hk x w m, dt_smul b hk]
/-- unit columns -/
def un : Nat → Nat → Int := fun c r => if c = r then 1 else 0
theorem mi_un (n : Nat) : ∀ c r, c < n → r < n → mi un 0 c r = un c r := fun c r _ _ => by
  simp only [mi, un]
  rw [if_neg (Nat.not_lt_zero c)]
  by_cases h : c = r
  · rw [if_pos h, if_pos (by omega)]
  · rw [if_neg h, if_neg (by omega)]
theorem dt_un : ∀ n : Nat, dt n un = 1
  | 0 => rfl
  | n + 1 => by
    show sm _ (n + 1) = 1
    rw [sm_one (k := 0) (Nat.succ_pos n) (fun c hc h => ?_)]
    · rw [dt_congr (mi_un n), dt_un n]; rfl
    · rw [show un c 0 = 0 from if_neg h, Int.mul_zero, Int.zero_mul]
/-- every column is the sum of its entries times the unit columns -/
theorem sm_un (v : Nat → Int) {n r : Nat} (hr : r < n) : sm (fun l => v l * un l r) n = v r := by
  rw [sm_one hr (fun i hi h => by rw [show un i r = 0 from if_neg h, Int.mul_zero])]
  rw [show un r r = 1 from if_pos rfl, Int.mul_one]
theorem dt_unc {n i : Nat} (hi : i < n) (v : Nat → Int) : dt n (cu un i v) = v i := by
  have h := dt_sum (n := n) un hi v un n
  rw [dt_congr (b := cu un i v) (b' := cu un i (fun r => sm (fun l => v l * un l r) n)) (fun c r hc hr => ?_), h, sm_one hi (fun l hl hli => ?_)]
  · rw [cu_id, dt_un, Int.mul_one]
  · rw [dt_eq _ hl hi hli (fun r _ => by rw [cu_self, cu_ne _ _ hli]), Int.mul_zero]
  · by_cases hci : c = i
    · subst hci
      rw [cu_self, cu_self, sm_un v hr]
    · rw [cu_ne _ _ hci, cu_ne _ _ hci]
/-- Cramer's rule at b: what Bareiss' steps keep -/
def cram (n : Nat) (b : Nat → Nat → Int) : Prop := ∀ (v : Nat → Int) (r : Nat), r < n → dt n b * v r = sm (fun l => dt n (cu b l v) * b l r) n
theorem cram_un (n : Nat) : cram n un := by
  intro v r hr
  rw [dt_un, Int.one_mul, ← sm_un v hr]
  exact sm_congr (fun l hl => by rw [dt_unc hl])
/-- the three terms: b with v_c at r, v at l -/
theorem pluck {n : Nat} {b : Nat → Nat → Int} (h : cram n b) {l r : Nat} (hl : l < n) (hr : r < n) (hlr : l ≠ r) (c v : Nat → Int) : dt n b * dt n (cu (cu b r c) l v) = dt n (cu b l v) * dt n (cu b r c) - dt n (cu b r v) * dt n (cu b l c) := by
  have e1 : dt n b * dt n (cu (cu b r c) l v) = dt n (cu (cu b r c) l (fun q => sm (fun k => dt n (cu b k v) * b k q) n)) := by
    rw [← dt_smul _ hl]
    refine dt_congr (fun q s hq hs => ?_)
    by_cases hql : q = l
    · subst hql
      rw [cu_self, cu_self]
      exact h v s hs
    · rw [cu_ne _ _ hql, cu_ne _ _ hql]
  rw [e1, dt_sum _ hl, sm_two hl hr hlr (fun k hk h1 h2 => ?_)]
  · have e2 : cu (cu b r c) l (b l) = cu b r c := by
      have := cu_id (cu b r c) l
      rw [cu_ne _ _ hlr] at this
      exact this
    have e3 : dt n (cu (cu b r c) l (b r)) = -dt n (cu b l c) := by
      rw [dt_sw b hr hl (Ne.symm hlr), cu_id]
    rw [e2, e3, Int.mul_neg]
    omega
  · rw [dt_eq (cu (cu b r c) l (b k)) hk hl h1 (fun q _ => by rw [cu_self, cu_ne _ _ h1, cu_ne _ _ h2]), Int.mul_zero]
theorem cram_step {n : Nat} {b : Nat → Nat → Int} (h : cram n b) (h0 : dt n b ≠ 0) {r : Nat} (hr : r < n) (c : Nat → Int) : cram n (cu b r c) := by
  intro v q hq
  apply Int.eq_of_mul_eq_mul_left h0
  have hv := h v q hq
  have hc := h c q hq
  have e : dt n b * sm (fun l => dt n (cu (cu b r c) l v) * (cu b r c) l q) n = dt n b * (dt n (cu b r v) * c q) + sm (fun l => (if l = r then 0 else (dt n (cu b l v) * dt n (cu b r c) - dt n (cu b r v) * dt n (cu b l c)) * b l q)) n := by
    rw [← sm_mul]
    have e2 : ∀ l, l < n → dt n b * (dt n (cu (cu b r c) l v) * (cu b r c) l q) = (if l = r then dt n b * (dt n (cu b r v) * c q) else 0) + (if l = r then 0 else (dt n (cu b l v) * dt n (cu b r c) - dt n (cu b r v) * dt n (cu b l c)) * b l q) := by
      intro l hl
      by_cases hlr : l = r
      · subst hlr
        rw [if_pos rfl, if_pos rfl, cu_cu, cu_self, Int.add_zero]
      · rw [if_neg hlr, if_neg hlr, cu_ne _ _ hlr, Int.zero_add, ← Int.mul_assoc, pluck h hl hr hlr]
    rw [sm_congr e2, sm_add, sm_one hr (fun i hi hir => by rw [if_neg hir]), if_pos rfl]
  rw [e]
  have e3 : sm (fun l => (if l = r then 0 else (dt n (cu b l v) * dt n (cu b r c) - dt n (cu b r v) * dt n (cu b l c)) * b l q)) n = dt n (cu b r c) * sm (fun l => dt n (cu b l v) * b l q) n - dt n (cu b r v) * sm (fun l => dt n (cu b l c) * b l q) n := by
    rw [← sm_mul, ← sm_mul, ← sm_sub]
    refine sm_congr (fun l hl => ?_)
    by_cases hlr : l = r
    · subst hlr
      rw [if_pos rfl, ← Int.mul_assoc, ← Int.mul_assoc, Int.mul_comm (dt n (cu b l c)) (dt n (cu b l v)), Int.sub_self]
    · rw [if_neg hlr, Int.sub_mul, ← Int.mul_assoc, ← Int.mul_assoc, Int.mul_comm (dt n (cu b r c))]
  rw [e3, ← hv, ← hc]
  have t1 : dt n b * (dt n (cu b r v) * c q) = dt n (cu b r v) * (dt n b * c q) := Int.mul_left_comm _ _ _
  have t2 : dt n b * (dt n (cu b r c) * v q) = dt n (cu b r c) * (dt n b * v q) := Int.mul_left_comm _ _ _
  rw [t1, t2]
  omega
