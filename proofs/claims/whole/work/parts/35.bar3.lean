/-- the columns are free of each other -/
def KF (n : Nat) (v : Nat → Nat → Int) : Prop := ∀ x : Nat → Int, (∀ r, r < n → sm (fun l => x l * v l r) n = 0) → ∀ l, l < n → x l = 0
theorem dt_kern {n : Nat} {v : Nat → Nat → Int} {x : Nat → Int} (h : ∀ r, r < n → sm (fun l => x l * v l r) n = 0) {l : Nat} (hl : l < n) : x l * dt n v = 0 := by
  have e1 : dt n (cu v l (fun r => sm (fun k => x k * v k r) n)) = 0 := by
    have : dt n (cu v l (fun r => sm (fun k => x k * v k r) n)) = dt n (cu v l (fun r => 0 * v l r)) := dt_congr (fun c r hc hr => by
      by_cases hcl : c = l
      · subst hcl; rw [cu_self, cu_self, h r hr, Int.zero_mul]
      · rw [cu_ne _ _ hcl, cu_ne _ _ hcl])
    rw [this, dt_smul v hl, Int.zero_mul]
  rw [dt_sum v hl, sm_one hl (fun k hk hkl => ?_), cu_id] at e1
  · exact e1
  · rw [dt_eq (i := k) (j := l) (cu v l (v k)) hk hl hkl (fun r _ => by rw [cu_ne _ _ hkl, cu_self]), Int.mul_zero]
theorem kf_of {n : Nat} {v : Nat → Nat → Int} (h : dt n v ≠ 0) : KF n v := fun x hx l hl => by
  rcases Int.mul_eq_zero.mp (dt_kern hx hl) with w | w
  · exact w
  · exact absurd w h
theorem not_kf_dt {n : Nat} {v : Nat → Nat → Int} (h : ¬ KF n v) : dt n v = 0 := by
  apply Classical.byContradiction
  intro w
  exact h (kf_of w)
theorem bs_full {n q w : Nat} {v b M : Nat → Nat → Int} {e D : Int} (h : BS n v b e 0 q w M D) (hb : ∀ l, l < n → b l = v l) : KF n v ∧ D = e * dt n v ∧ ∀ j, q ≤ j → j < w → ∀ r, r < n → D * v j r = sm (fun l => M l j * v l r) n := by
  have e1 : dt n b = dt n v := dt_congr (fun c r hc _ => by rw [hb c hc])
  refine ⟨kf_of (by rw [← e1]; exact h.dne), by rw [h.2.2.2.1, e1], fun j j0 j1 r hr => ?_⟩
  have c := h.2.1 (v j) r hr
  rw [h.2.2.2.1, Int.mul_assoc, c, ← sm_mul]
  refine sm_congr (fun l hl => ?_)
  rw [h.2.2.2.2 l j (Nat.zero_le _) hl j0 j1, hb l hl, Int.mul_assoc]
theorem bs_miss {n q w : Nat} {v b M : Nat → Nat → Int} {e D : Int} (h : BS n v b e 0 q w M D) {c : Nat} (hc : c < n) (hq : q ≤ c) (hw : c < w) (hb : ∀ l, l < c → b l = v l) (hz : ∀ i, c ≤ i → i < n → M i c = 0) : ¬ KF n v := by
  intro hk
  have hd := h.dne
  have := hk (fun j => if j = c then dt n b else if j < c then -dt n (cu b j (v c)) else 0) (fun r hr => ?_) c hc
  · rw [if_pos rfl] at this; exact hd this
  · have cr := h.2.1 (v c) r hr
    have e1 : sm (fun l => (if l = c then dt n b else if l < c then -dt n (cu b l (v c)) else 0) * v l r) n = sm (fun l => (if l = c then dt n b * v c r else 0) - dt n (cu b l (v c)) * b l r) n := by
      refine sm_congr (fun l hl => ?_)
      by_cases h1 : l = c
      · subst h1
        have z : dt n (cu b l (v l)) = 0 := by
          have m := h.2.2.2.2 l l (Nat.zero_le _) hl hq hw
          rw [hz l (Nat.le_refl _) hl] at m
          rcases Int.mul_eq_zero.mp m.symm with w | w
          · rcases h.1 with q | q <;> rw [q] at w <;> cases w
          · exact w
        rw [if_pos rfl, if_pos rfl, z, Int.zero_mul, Int.sub_zero]
      · rw [if_neg h1, if_neg h1]
        by_cases h2 : l < c
        · rw [if_pos h2, hb l h2, Int.neg_mul, Int.zero_sub]
        · have z : dt n (cu b l (v c)) = 0 := by
            have m := h.2.2.2.2 l c (Nat.zero_le _) hl hq hw
            rw [hz l (by omega) hl] at m
            rcases Int.mul_eq_zero.mp m.symm with w | w
            · rcases h.1 with q | q <;> rw [q] at w <;> cases w
            · exact w
          rw [if_neg h2, z, Int.zero_mul, Int.zero_mul]; decide
    rw [e1, sm_sub, ← cr, sm_one hc (fun i _ hi => if_neg hi), if_pos rfl, Int.sub_self]
