/-- d tells the k members of C, each once -/
def Ord (C : Nat → Bool) (k : Nat) (d : Nat → Nat) : Prop := (∀ i, i < k → d i < 8 ∧ C (d i) = true) ∧ (∀ i j, i < k → j < k → d i = d j → i = j) ∧ ∀ s, s < 8 → C s = true → ∃ i, i < k ∧ d i = s
theorem Ord.sum {C : Nat → Bool} {k : Nat} {d : Nat → Nat} (h : Ord C k d) (f : Nat → Int) : sm (fun i => f (d i)) k = sm (fun s => if C s then f s else 0) 8 := by
  have e1 : sm (fun i => f (d i)) k = sm (fun i => sm (fun s => if d i = s then f s else 0) 8) k := sm_congr (fun i hi => by
    rw [sm_one (k := d i) (h.1 i hi).1 (fun s _ hs => if_neg (Ne.symm hs)), if_pos rfl])
  rw [e1, sm_swap]
  refine sm_congr (fun s hs => ?_)
  by_cases c : C s = true
  · obtain ⟨i, hi, e⟩ := h.2.2 s hs c
    rw [if_pos c, sm_one hi (fun j hj hji => if_neg (fun q => hji (h.2.1 j i hj hi (q.trans e.symm)))), if_pos e]
  · rw [if_neg c]
    exact sm_zero (fun i hi => if_neg (fun q => c (by rw [← q]; exact (h.1 i hi).2)))
def KFI (C : Nat → Bool) (G : Nat → Nat → Int) : Prop := ∀ (x : Nat → Int) (m : Int), (∀ s, s < 8 → C s = true → sm (fun t => if C t then x t * G s t else 0) 8 + m = 0) → sm (fun t => if C t then x t else 0) 8 = 0 → ∀ s, s < 8 → C s = true → x s = 0
def SolI (C : Nat → Bool) (G : Nat → Nat → Int) (ρ : Nat → Int) (P : Int) (x : Nat → Int) (m D : Int) : Prop := D ≠ 0 ∧ (∀ s, s < 8 → C s = true → sm (fun t => if C t then x t * G s t else 0) 8 + m = D * ρ s) ∧ sm (fun t => if C t then x t else 0) 8 = D * P
/-- from places to members -/
def sprd (k : Nat) (d : Nat → Nat) (y : Nat → Int) : Nat → Int := fun s => sm (fun j => if d j = s then y j else 0) k
theorem Ord.spr {C : Nat → Bool} {k : Nat} {d : Nat → Nat} (h : Ord C k d) (y : Nat → Int) {i : Nat} (hi : i < k) : sprd k d y (d i) = y i := by
  unfold sprd
  rw [sm_one hi (fun j hj hji => if_neg (fun q => hji (h.2.1 j i hj hi q))), if_pos rfl]
