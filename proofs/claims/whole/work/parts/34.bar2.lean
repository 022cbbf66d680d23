def tr (r s i : Nat) : Nat := if i = r then s else if i = s then r else i
theorem tr_lt {n r s i : Nat} (hr : r < n) (hs : s < n) (hi : i < n) : tr r s i < n := by
  unfold tr; split <;> (try split) <;> omega
theorem tr_tr (r s i : Nat) : tr r s (tr r s i) = i := by
  unfold tr
  by_cases h1 : i = r
  · subst h1; rw [if_pos rfl]
    by_cases h2 : s = i
    · rw [if_pos h2, h2]
    · rw [if_neg h2, if_pos rfl]
  · rw [if_neg h1]
    by_cases h2 : i = s
    · subst h2; rw [if_pos rfl, if_pos rfl]
    · rw [if_neg h2, if_neg h1, if_neg h2]
theorem sm_tr {n r s : Nat} (F : Nat → Int) (hr : r < n) (hs : s < n) : sm (fun l => F (tr r s l)) n = sm F n := by
  by_cases hrs : r = s
  · subst hrs
    refine sm_congr (fun i _ => ?_)
    congr 1
    unfold tr; split <;> (try split) <;> omega
  · have h := sm_sub (fun l => F (tr r s l)) F n
    have h2 : sm (fun l => F (tr r s l) - F l) n = 0 := by
      rw [sm_two hr hs hrs (fun i _ h1 h2 => by show F (tr r s i) - F i = 0; unfold tr; rw [if_neg h1, if_neg h2]; omega)]
      show F (tr r s r) - F r + (F (tr r s s) - F s) = 0
      unfold tr
      rw [if_pos rfl, if_neg (Ne.symm hrs), if_pos rfl]
      omega
    omega
theorem cram_sw {n r s : Nat} {b : Nat → Nat → Int} (h : cram n b) (hr : r < n) (hs : s < n) (hrs : r ≠ s) : cram n (rsw b r s) := by
  intro v q hq
  have e := h v q hq
  rw [csw_dt b hr hs hrs]
  have e2 : sm (fun l => dt n (cu (rsw b r s) l v) * rsw b r s l q) n = sm (fun l => (fun l => -(dt n (cu b l v) * b l q)) (tr r s l)) n := by
    refine sm_congr (fun l hl => ?_)
    have e3 : cu (rsw b r s) l v = rsw (cu b (tr r s l) v) r s := by
      rw [rsw_cu]
      show _ = cu (rsw b r s) (tr r s (tr r s l)) v
      rw [tr_tr]
    rw [e3, csw_dt _ hr hs hrs]
    show -dt n (cu b (tr r s l) v) * b (tr r s l) q = -(dt n (cu b (tr r s l) v) * b (tr r s l) q)
    rw [Int.neg_mul]
  rw [e2, sm_tr (fun l => -(dt n (cu b l v) * b l q)) hr hs, sm_neg, ← e, Int.neg_mul]
theorem BS.swap {n p q w : Nat} {v b M : Nat → Nat → Int} {e D : Int} (h : BS n v b e p q w M D) {r s : Nat} (hr : r < n) (hs : s < n) (hrs : r ≠ s) (pr : p ≤ r) (ps : p ≤ s) : BS n v (rsw b r s) (-e) p q w (rsw M r s) D := by
  refine ⟨by rcases h.1 with w | w <;> rw [w] <;> decide, cram_sw h.2.1 hr hs hrs, h.2.2.1, by rw [csw_dt b hr hs hrs, h.2.2.2.1, Int.neg_mul_neg], fun i j i0 i1 j0 j1 => ?_⟩
  show M (tr r s i) j = _
  have ti : p ≤ tr r s i := by unfold tr; split <;> (try split) <;> omega
  rw [h.2.2.2.2 (tr r s i) j ti (tr_lt hr hs i1) j0 j1]
  have e3 : cu (rsw b r s) i (v j) = rsw (cu b (tr r s i) (v j)) r s := by
    rw [rsw_cu]
    show _ = cu (rsw b r s) (tr r s (tr r s i)) (v j)
    rw [tr_tr]
  rw [e3, csw_dt _ hr hs hrs, Int.neg_mul_neg]
/-- how large a determinant can be -/
def fa (A : Int) : Nat → Int
  | 0 => 1
  | n + 1 => (n + 1) * (A * fa A n)
theorem fa_pos {A : Int} (hA : 1 ≤ A) : ∀ n, 0 < fa A n
  | 0 => by show (0 : Int) < 1; decide
  | n + 1 => by
    show 0 < ((n : Int) + 1) * (A * fa A n)
    exact Int.mul_pos (by omega) (Int.mul_pos (by omega) (fa_pos hA n))
theorem sm_abs {f : Nat → Int} {B : Int} : ∀ {n : Nat}, (∀ i, i < n → -B ≤ f i ∧ f i ≤ B) → -(n * B) ≤ sm f n ∧ sm f n ≤ n * B
  | 0, _ => by show -((0 : Int) * B) ≤ 0 ∧ 0 ≤ (0 : Int) * B; omega
  | n + 1, h => by
    have ih := sm_abs (n := n) (fun i hi => h i (by omega))
    have hn := h n (by omega)
    show -(((n + 1 : Nat) : Int) * B) ≤ sm f n + f n ∧ sm f n + f n ≤ ((n + 1 : Nat) : Int) * B
    have e : ((n + 1 : Nat) : Int) * B = n * B + B := by rw [Int.natCast_add, Int.add_mul]; omega
    omega
theorem z_pb {x y A F : Int} (h1 : -A ≤ x) (h2 : x ≤ A) (h3 : -F ≤ y) (h4 : y ≤ F) (hF : 0 ≤ F) : -(A * F) ≤ x * y ∧ x * y ≤ A * F := by
  have hA : 0 ≤ A := by omega
  have a : 0 ≤ (A - x) * (F + y) := Int.mul_nonneg (by omega) (by omega)
  have b : 0 ≤ (A + x) * (F - y) := Int.mul_nonneg (by omega) (by omega)
  have c : 0 ≤ (A - x) * (F - y) := Int.mul_nonneg (by omega) (by omega)
  have d : 0 ≤ (A + x) * (F + y) := Int.mul_nonneg (by omega) (by omega)
  have e1 : (A - x) * (F + y) = A * F + A * y - x * F - x * y := by grind
  have e2 : (A + x) * (F - y) = A * F - A * y + x * F - x * y := by grind
  have e3 : (A - x) * (F - y) = A * F - A * y - x * F + x * y := by grind
  have e4 : (A + x) * (F + y) = A * F + A * y + x * F + x * y := by grind
  omega
theorem dt_bd {A : Int} (hA : 1 ≤ A) : ∀ {n : Nat} {b : Nat → Nat → Int}, (∀ c r, c < n → r < n → -A ≤ b c r ∧ b c r ≤ A) → -fa A n ≤ dt n b ∧ dt n b ≤ fa A n
  | 0, b, _ => by show -(1 : Int) ≤ 1 ∧ (1 : Int) ≤ 1; decide
  | n + 1, b, h => by
    have hf := fa_pos hA n
    have := sm_abs (f := fun c => sg c * b c 0 * dt n (mi b c)) (B := A * fa A n) (n := n + 1) (fun c hc => by
      have hb := h c 0 hc (by omega)
      have hm := dt_bd hA (n := n) (b := mi b c) (fun j r hj hr => h _ _ (by split <;> omega) (by omega))
      have hs : -A ≤ sg c * b c 0 ∧ sg c * b c 0 ≤ A := by
        unfold sg
        split <;> omega
      exact z_pb hs.1 hs.2 hm.1 hm.2 (by omega))
    exact this
/-- the columns b stay within bounds -/
def bd (n : Nat) (A : Int) (b : Nat → Nat → Int) : Prop := ∀ c r, c < n → r < n → -A ≤ b c r ∧ b c r ≤ A
theorem bd_un {n : Nat} {A : Int} (hA : 1 ≤ A) : bd n A un := fun c r _ _ => by unfold un; split <;> omega
theorem bd.cu {n : Nat} {A : Int} {b : Nat → Nat → Int} (h : bd n A b) {k : Nat} {u : Nat → Int} (hu : ∀ r, r < n → -A ≤ u r ∧ u r ≤ A) : bd n A (cu b k u) := fun c r hc hr => by
  by_cases hk : c = k
  · subst hk; rw [cu_self]; exact hu r hr
  · rw [cu_ne _ _ hk]; exact h c r hc hr
theorem bd.sw {n : Nat} {A : Int} {b : Nat → Nat → Int} (h : bd n A b) {r s : Nat} (hr : r < n) (hs : s < n) : bd n A (rsw b r s) := fun c q hc hq => h (tr r s c) q (tr_lt hr hs hc) hq
theorem BS.bnd {n p q w : Nat} {v b M : Nat → Nat → Int} {e D A : Int} (h : BS n v b e p q w M D) (hA : 1 ≤ A) (hb : bd n A b) (hv : ∀ j r, j < w → r < n → -A ≤ v j r ∧ v j r ≤ A) {i j : Nat} (h1 : p ≤ i) (h2 : i < n) (h3 : q ≤ j) (h4 : j < w) : -fa A n ≤ M i j ∧ M i j ≤ fa A n := by
  rw [h.2.2.2.2 i j h1 h2 h3 h4]
  have := dt_bd hA (hb.cu (k := i) (u := v j) (fun r hr => hv j r h4 hr))
  rcases h.1 with w | w <;> rw [w] <;> omega
theorem BS.bndD {n p q w : Nat} {v b M : Nat → Nat → Int} {e D A : Int} (h : BS n v b e p q w M D) (hA : 1 ≤ A) (hb : bd n A b) : -fa A n ≤ D ∧ D ≤ fa A n := by
  rw [h.2.2.2.1]
  have := dt_bd hA hb
  rcases h.1 with w | w <;> rw [w] <;> omega
