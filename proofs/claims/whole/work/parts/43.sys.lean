theorem sm_first (f : Nat → Int) : ∀ n : Nat, sm f (n + 1) = f 0 + sm (fun i => f (i + 1)) n
  | 0 => by show (0 : Int) + f 0 = f 0 + 0; omega
  | n + 1 => by
    show sm f (n + 1) + f (n + 1) = f 0 + (sm (fun i => f (i + 1)) n + f (n + 1))
    rw [sm_first f n]; omega
/-- the weights' equations with the price, by places in an order -/
def KFB (k : Nat) (a : Nat → Nat → Int) : Prop := ∀ (x : Nat → Int) (m : Int), (∀ i, i < k → sm (fun j => x j * a i j) k + m = 0) → sm x k = 0 → ∀ j, j < k → x j = 0
def SolB (k : Nat) (a : Nat → Nat → Int) (ρ : Nat → Int) (P : Int) (x : Nat → Int) (m D : Int) : Prop := D ≠ 0 ∧ (∀ i, i < k → sm (fun j => x j * a i j) k + m = D * ρ i) ∧ sm x k = D * P
/-- the model's bordered columns -/
def bor (k : Nat) (a : Nat → Nat → Int) (ρ : Nat → Int) (P : Int) : Nat → Nat → Int := fun j r => if j < k then (if r < k then a r j else 1) else if j = k then (if r < k then 1 else 0) else (if r < k then ρ r else P)
theorem bor_sum {k : Nat} {a : Nat → Nat → Int} {ρ : Nat → Int} {P : Int} (x : Nat → Int) (r : Nat) : sm (fun l => x l * bor k a ρ P l r) (k + 1) = if r < k then sm (fun j => x j * a r j) k + x k else sm x k := by
  show sm (fun l => x l * bor k a ρ P l r) k + x k * bor k a ρ P k r = _
  have e : bor k a ρ P k r = if r < k then 1 else 0 := by unfold bor; rw [if_neg (Nat.lt_irrefl k), if_pos rfl]
  rw [e]
  by_cases h : r < k
  · rw [if_pos h, if_pos h, Int.mul_one]
    congr 1
    exact sm_congr (fun l hl => by unfold bor; rw [if_pos hl, if_pos h])
  · rw [if_neg h, if_neg h, Int.mul_zero, Int.add_zero]
    exact sm_congr (fun l hl => by unfold bor; rw [if_pos hl, if_neg h, Int.mul_one])
theorem kb_model {k : Nat} {a : Nat → Nat → Int} {ρ : Nat → Int} {P : Int} (hk : 1 ≤ k) : KF (k + 1) (bor k a ρ P) ↔ KFB k a := by
  constructor
  · intro h x m h1 h2 j hj
    have := h (fun l => if l < k then x l else m) (fun r hr => ?_) j (by omega)
    · rw [if_pos hj] at this; exact this
    · rw [bor_sum]
      by_cases c : r < k
      · rw [if_pos c, if_neg (Nat.lt_irrefl k), sm_congr (g := fun j => x j * a r j) (fun l hl => by rw [if_pos hl])]
        exact h1 r c
      · rw [if_neg c, sm_congr (g := x) (fun l hl => if_pos hl)]
        exact h2
  · intro h x hx l hl
    have h1 : ∀ i, i < k → sm (fun j => x j * a i j) k + x k = 0 := fun i hi => by
      have := hx i (by omega)
      rw [bor_sum, if_pos hi] at this; exact this
    have h2 : sm x k = 0 := by
      have := hx k (by omega)
      rw [bor_sum, if_neg (Nat.lt_irrefl k)] at this; exact this
    have h3 := h x (x k) h1 h2
    by_cases c : l < k
    · exact h3 l c
    · have : l = k := by omega
      subst this
      have e := h1 0 (by omega)
      rw [sm_zero (fun j hj => by rw [h3 j hj, Int.zero_mul])] at e
      omega
theorem sol_model {k : Nat} {a : Nat → Nat → Int} {ρ : Nat → Int} {P D : Int} {x : Nat → Int} (hD : D ≠ 0) (h : ∀ r, r < k + 1 → D * bor k a ρ P (k + 1) r = sm (fun l => x l * bor k a ρ P l r) (k + 1)) : SolB k a ρ P x (x k) D := by
  have e : ∀ r, bor k a ρ P (k + 1) r = if r < k then ρ r else P := fun r => by unfold bor; rw [if_neg (by omega), if_neg (by omega)]
  refine ⟨hD, fun i hi => ?_, ?_⟩
  · have := h i (by omega)
    rw [bor_sum, e, if_pos hi, if_pos hi] at this
    exact this.symm
  · have := h k (by omega)
    rw [bor_sum, e, if_neg (Nat.lt_irrefl k), if_neg (Nat.lt_irrefl k)] at this
    exact this.symm
/-- the class's square and right side -/
def sqr (u : Nat) (a : Nat → Nat → Int) (ρ : Nat → Int) (P : Int) : Nat → Nat → Int := fun j r => if j < u then a (r + 1) 0 + a 0 (j + 1) - a (r + 1) (j + 1) - a 0 0 else ρ 0 - ρ (r + 1) + P * (a (r + 1) 0 - a 0 0)
theorem sqr_sum {u : Nat} {a : Nat → Nat → Int} {ρ : Nat → Int} {P : Int} (y : Nat → Int) (r : Nat) : sm (fun l => y l * sqr u a ρ P l r) u = (a (r + 1) 0 - a 0 0) * sm y u + sm (fun l => y l * a 0 (l + 1)) u - sm (fun l => y l * a (r + 1) (l + 1)) u := by
  rw [← sm_mul, ← sm_add, ← sm_sub]
  refine sm_congr (fun l hl => ?_)
  show y l * sqr u a ρ P l r = _
  unfold sqr
  rw [if_pos hl]
  grind
theorem kb_class {u : Nat} {a : Nat → Nat → Int} {ρ : Nat → Int} {P : Int} : KF u (sqr u a ρ P) ↔ KFB (u + 1) a := by
  constructor
  · intro h x m h1 h2
    have r0 := h1 0 (by omega)
    rw [sm_first] at r0 h2
    have hy := h (fun l => x (l + 1)) (fun r hr => ?_)
    · have z : sm (fun l => x (l + 1)) u = 0 := sm_zero hy
      intro j hj
      cases j with
      | zero => omega
      | succ j => exact hy j (by omega)
    · rw [sqr_sum]
      have rr := h1 (r + 1) (by omega)
      rw [sm_first] at rr
      obtain ⟨A, hA⟩ : ∃ A : Int, A = sm (fun i => x (i + 1)) u := ⟨_, rfl⟩
      rw [← hA] at h2 ⊢
      have hA2 : A = -x 0 := by omega
      rw [hA2, Int.mul_neg, Int.sub_mul, Int.mul_comm (a (r + 1) 0), Int.mul_comm (a 0 0)]
      omega
  · intro h y hy l hl
    have key : ∀ x : Nat → Int, x 0 = -sm y u → (∀ l, x (l + 1) = y l) → y l = 0 := by
      intro x x0 xs
      have e0 : sm (fun i => x (i + 1)) u = sm y u := sm_congr (fun i _ => xs i)
      have er : ∀ r, sm (fun i => x (i + 1) * a r (i + 1)) u = sm (fun l => y l * a r (l + 1)) u := fun r => sm_congr (fun i _ => by rw [xs i])
      have := h x (-(sm (fun j => x j * a 0 j) (u + 1))) (fun i hi => ?_) (by rw [sm_first, e0, x0]; omega) (l + 1) (by omega)
      · rw [xs] at this; exact this
      · cases i with
        | zero => omega
        | succ r =>
          have hr := hy r (by omega)
          rw [sqr_sum] at hr
          rw [sm_first, sm_first (fun j => x j * a 0 j), er, er, x0, Int.neg_mul, Int.neg_mul, Int.mul_comm (sm y u), Int.mul_comm (sm y u)]
          rw [Int.sub_mul] at hr
          omega
    exact key (fun j => match j with | 0 => -sm y u | l + 1 => y l) rfl (fun _ => rfl)
theorem sol_class {u : Nat} {a : Nat → Nat → Int} {ρ : Nat → Int} {P D : Int} {y x : Nat → Int} (hD : D ≠ 0) (h : ∀ r, r < u → D * sqr u a ρ P u r = sm (fun l => y l * sqr u a ρ P l r) u) (x0 : x 0 = D * P - sm y u) (xs : ∀ l, l < u → x (l + 1) = y l) : SolB (u + 1) a ρ P x (D * ρ 0 - sm (fun j => x j * a 0 j) (u + 1)) D := by
  have e0 : sm (fun i => x (i + 1)) u = sm y u := sm_congr (fun i hi => xs i hi)
  have er : ∀ r, sm (fun i => x (i + 1) * a r (i + 1)) u = sm (fun l => y l * a r (l + 1)) u := fun r => sm_congr (fun i hi => by rw [xs i hi])
  have eu : ∀ r, sqr u a ρ P u r = ρ 0 - ρ (r + 1) + P * (a (r + 1) 0 - a 0 0) := fun r => by unfold sqr; rw [if_neg (Nat.lt_irrefl u)]
  refine ⟨hD, fun i hi => ?_, by rw [sm_first, e0, x0]; omega⟩
  cases i with
  | zero => omega
  | succ r =>
    have hr := h r (by omega)
    rw [sqr_sum, eu] at hr
    rw [sm_first, sm_first (fun j => x j * a 0 j), er, er, x0]
    obtain ⟨Y, hY⟩ : ∃ Y : Int, Y = sm y u := ⟨_, rfl⟩
    rw [← hY] at hr ⊢
    have e1 : (D * P - Y) * a (r + 1) 0 = D * (P * a (r + 1) 0) - a (r + 1) 0 * Y := by grind
    have e2 : (D * P - Y) * a 0 0 = D * (P * a 0 0) - a 0 0 * Y := by grind
    have e3 : D * (ρ 0 - ρ (r + 1) + P * (a (r + 1) 0 - a 0 0)) = D * ρ 0 - D * ρ (r + 1) + D * (P * a (r + 1) 0) - D * (P * a 0 0) := by grind
    rw [e3, Int.sub_mul] at hr
    rw [e1, e2]
    omega
