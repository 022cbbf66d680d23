theorem Ord.kf {C : Nat → Bool} {k : Nat} {d : Nat → Nat} (h : Ord C k d) (G : Nat → Nat → Int) : KFB k (fun i j => G (d i) (d j)) ↔ KFI C G := by
  constructor
  · intro q x m h1 h2 s hs cs
    obtain ⟨i, hi, e⟩ := h.2.2 s hs cs
    subst e
    refine q (fun i => x (d i)) m (fun i hi => ?_) ?_ i hi
    · have := h1 (d i) (h.1 i hi).1 (h.1 i hi).2
      rw [← h.sum (fun t => x t * G (d i) t)] at this
      exact this
    · rw [← h.sum x] at h2; exact h2
  · intro q y m h1 h2 j hj
    have e : ∀ s, sm (fun t => if C t then sprd k d y t * G s t else 0) 8 = sm (fun j => y j * G s (d j)) k := fun s => by
      rw [← h.sum (fun t => sprd k d y t * G s t)]
      exact sm_congr (fun i hi => by rw [h.spr y hi])
    rw [← h.spr y hj]
    refine q (sprd k d y) m (fun s hs cs => ?_) ?_ (d j) (h.1 j hj).1 (h.1 j hj).2
    · rw [e]
      obtain ⟨i, hi, e⟩ := h.2.2 s hs cs
      subst e
      exact h1 i hi
    · rw [← h.sum (sprd k d y), sm_congr (g := y) (fun i hi => h.spr y hi)]
      exact h2
theorem Ord.sol {C : Nat → Bool} {k : Nat} {d : Nat → Nat} (h : Ord C k d) {G : Nat → Nat → Int} {ρ : Nat → Int} {P : Int} {y x : Nat → Int} {m D : Int} (hx : ∀ i, i < k → x (d i) = y i) (q : SolB k (fun i j => G (d i) (d j)) (fun i => ρ (d i)) P y m D) : SolI C G ρ P x m D := by
  refine ⟨q.1, fun s hs cs => ?_, ?_⟩
  · rw [← h.sum (fun t => x t * G s t)]
    obtain ⟨i, hi, e⟩ := h.2.2 s hs cs
    subst e
    have := q.2.1 i hi
    rw [← this]
    congr 1
    exact sm_congr (fun j hj => by rw [hx j hj])
  · rw [← h.sum x, sm_congr (g := y) (fun i hi => hx i hi)]
    exact q.2.2
/-- two solutions are the same fractions -/
theorem SolI.same {C : Nat → Bool} {G : Nat → Nat → Int} {ρ : Nat → Int} {P : Int} {x x' : Nat → Int} {m m' D D' : Int} (hk : KFI C G) (h : SolI C G ρ P x m D) (h' : SolI C G ρ P x' m' D') (hc : ∃ s, s < 8 ∧ C s = true) : (∀ s, s < 8 → C s = true → D' * x s = D * x' s) ∧ D' * m = D * m' := by
  have e : ∀ (f : Nat → Int), sm (fun t => if C t then (D' * x t - D * x' t) * f t else 0) 8 = D' * sm (fun t => if C t then x t * f t else 0) 8 - D * sm (fun t => if C t then x' t * f t else 0) 8 := fun f => by
    rw [← sm_mul, ← sm_mul, ← sm_sub]
    refine sm_congr (fun t _ => ?_)
    split
    · rw [Int.sub_mul, Int.mul_assoc, Int.mul_assoc]
    · rw [Int.mul_zero, Int.mul_zero]; rfl
  have z := hk (fun t => D' * x t - D * x' t) (D' * m - D * m') (fun s hs cs => by
    rw [e (G s)]
    have a := h.2.1 s hs cs
    have b := h'.2.1 s hs cs
    obtain ⟨X, hX⟩ : ∃ X : Int, X = sm (fun t => if C t then x t * G s t else 0) 8 := ⟨_, rfl⟩
    obtain ⟨Y, hY⟩ : ∃ Y : Int, Y = sm (fun t => if C t then x' t * G s t else 0) 8 := ⟨_, rfl⟩
    rw [← hX] at a ⊢
    rw [← hY] at b ⊢
    have a2 : X = D * ρ s - m := by omega
    have b2 : Y = D' * ρ s - m' := by omega
    rw [a2, b2]; grind) (by
    have e1 := e (fun _ => 1)
    have a := h.2.2
    have b := h'.2.2
    rw [sm_congr (g := fun t => if C t then x t else 0) (fun t _ => by rw [Int.mul_one]) (f := fun t => if C t then x t * 1 else 0), sm_congr (g := fun t => if C t then x' t else 0) (fun t _ => by rw [Int.mul_one]) (f := fun t => if C t then x' t * 1 else 0), sm_congr (g := fun t => if C t then (D' * x t - D * x' t) else 0) (fun t _ => by rw [Int.mul_one]) (f := fun t => if C t then (D' * x t - D * x' t) * 1 else 0), a, b] at e1
    rw [e1]; grind)
  have z1 : ∀ s, s < 8 → C s = true → D' * x s = D * x' s := fun s hs cs => by have := z s hs cs; omega
  refine ⟨z1, ?_⟩
  obtain ⟨s, hs, cs⟩ := hc
  have a := h.2.1 s hs cs
  have b := h'.2.1 s hs cs
  have e2 := e (G s)
  rw [sm_zero (fun t ht => by
    split
    · rename_i c; rw [z1 t ht c, Int.sub_self, Int.zero_mul]
    · rfl)] at e2
  obtain ⟨X, hX⟩ : ∃ X : Int, X = sm (fun t => if C t then x t * G s t else 0) 8 := ⟨_, rfl⟩
  obtain ⟨Y, hY⟩ : ∃ Y : Int, Y = sm (fun t => if C t then x' t * G s t else 0) 8 := ⟨_, rfl⟩
  rw [← hX] at a e2
  rw [← hY] at b e2
  have a2 : m = D * ρ s - X := by omega
  have b2 : m' = D' * ρ s - Y := by omega
  rw [a2, b2, Int.mul_sub, Int.mul_sub]
  have : D' * (D * ρ s) = D * (D' * ρ s) := by grind
  omega
theorem cross_sum {C : Nat → Bool} {x x' : Nat → Int} {D D' : Int} (h : ∀ s, s < 8 → C s = true → D' * x s = D * x' s) (f : Nat → Int) : D' * sm (fun t => if C t then x t * f t else 0) 8 = D * sm (fun t => if C t then x' t * f t else 0) 8 := by
  rw [← sm_mul, ← sm_mul]
  refine sm_congr (fun t ht => ?_)
  split
  · rename_i c; rw [← Int.mul_assoc, ← Int.mul_assoc, h t ht c]
  · rw [Int.mul_zero, Int.mul_zero]
