/-- one step of the borrow -/
theorem pt_v {w m r o : Int} (w0 : 0 ≤ w) (w1 : w < 1000000000) (m0 : 0 ≤ m) (m1 : m < 1000000000) (r0 : 0 ≤ r) (r1 : r < 1000000000) (o0 : 0 ≤ o) (o1 : o ≤ 1000000000) : -1000000000000000000 ≤ w - m * r - o ∧ w - m * r - o < 1000000000 ∧ 0 ≤ -((w - m * r - o) / 1000000000) ∧ -((w - m * r - o) / 1000000000) ≤ 1000000000 := by
  have a : 0 ≤ m * r := Int.mul_nonneg m0 r0
  have b : m * r ≤ 999999999 * r := Int.mul_le_mul_of_nonneg_right (by omega) r0
  omega
theorem pt_step {D m Rj r o w x P : Int} (hx : x = w - m * r - o) : D + w * P - m * (Rj + r * P) + -(x / 1000000000) * (P * 1000000000) = D - m * Rj + o * P + x % 1000000000 * P := by
  have em := Int.mul_ediv_add_emod x 1000000000
  have e1 : -(x / 1000000000) * (P * 1000000000) = -(1000000000 * (x / 1000000000)) * P := by grind
  rw [e1, show -(1000000000 * (x / 1000000000)) = x % 1000000000 - x by omega, hx]
  grind
theorem c_goesInto {X : ZS} {σ : ZM} {T : Bool → ZM → Prop} {m : Int} {u j0 : Nat} (hf : Fix σ) (hm0 : 0 ≤ m) (hm1 : m < 1000000000) (hu : u + j0 ≤ 16) (dl : dg (σ 221) 16) (dr : dg (σ 222) 16) (zR : ∀ j : Int, j0 ≤ j → j < 16 → σ 222 j = 0)
    (h : T (decide (m * dv (σ 222) 16 ≤ dv (sh (σ 221) u) (16 - u))) σ) : ZC X (rX12_goesInto zN) mX12_goesInto [(2, 211), (1, m), (0, (u : Int)), (0, (j0 : Int))] zN σ (zQz T) := by
  obtain ⟨W, hW⟩ : ∃ W : Int → Int, W = sh (σ 221) u := ⟨_, rfl⟩
  obtain ⟨R, hR⟩ : ∃ R : Int → Int, R = σ 222 := ⟨_, rfl⟩
  rw [← hW, ← hR] at h
  rw [← hR] at dr zR
  have dW : dg W (16 - u) := fun j k0 k1 => by rw [hW]; exact dl _ (by omega) (by omega)
  have hRz : ∀ j : Nat, j0 ≤ j → j ≤ 16 → dv R 16 = dv R j := fun j h1 h2 => dv_zero h2 (fun i i0 i1 => zR i (by omega) i1)
  have key : ∀ (l j : Nat) (o : Int), u + j + l = 16 → 0 ≤ o → o ≤ 1000000000 → 0 ≤ dv W j - m * dv R j + o * pw j → dv W j - m * dv R j + o * pw j < pw j →
      Z X (rX12_goesInto zN) mX12_goesInto 6 [(2, 211), (1, m), (9, 0), (0, (u : Int)), (0, (j0 : Int)), (1, o), (9, 0), (0, (j : Int)), (9, 0), (9, 0)] [] zN σ (zQz T) := by
    intro l
    induction l with
    | zero =>
      intro j o hj o0 o1 e0 e1
      have hju : j = 16 - u := by omega
      rw [← hju, hRz j (by omega) (by omega)] at h
      refine bk_X12_goesInto_6 ⟨by constructor <;> omega, fun _ => ⟨by constructor <;> omega, fun w => ?_, fun w => ?_⟩, fun w => absurd (by omega) w⟩
      · have : 1 * pw j ≤ o * pw j := Int.mul_le_mul_of_nonneg_right (by omega) (Int.le_of_lt (pw_pos j))
        rw [decide_eq_false (by omega)] at h; exact h
      · rw [w, Int.zero_mul] at e0
        rw [decide_eq_true (by omega)] at h; exact h
    | succ l ih =>
      intro j o hj o0 o1 e0 e1
      have wj := dW j (by omega) (by omega)
      have rj := dr j (by omega) (by omega)
      have eW : σ 221 ((j : Int) + u) = W j := by rw [hW]; unfold sh; congr 1; omega
      have pv := pt_v wj.1 wj.2 hm0 hm1 rj.1 rj.2 o0 o1
      obtain ⟨x, hx⟩ : ∃ x : Int, x = W j - m * R j - o := ⟨_, rfl⟩
      rw [← hx] at pv
      have nxt : (Fix σ) ∧ (0 ≤ ((j : Int) + u)) ∧ (((j : Int) + u) < 16) ∧ (0 ≤ (j : Int)) ∧ ((j : Int) < 16) ∧ (r64 (((σ 221 ((j : Int) + u)) - (m * (σ 222 j))) - o)) ∧ Z X (rX12_goesInto zN) mX12_goesInto 6 [(2, 211), (1, m), (9, 0), (0, (u : Int)), (0, (j0 : Int)), (1, (-((((σ 221 ((j : Int) + u)) - (m * (σ 222 j))) - o) / 1000000000))), (9, 0), (0, ((j : Int) + 1)), (9, 0), (9, 0)] [] zN σ (zQz T) := by
        rw [eW, ← hR, ← hx]
        have m0' := Int.emod_nonneg x (show (1000000000 : Int) ≠ 0 by decide)
        have m1' := Int.emod_lt_of_pos x (show (0 : Int) < 1000000000 by decide)
        refine ⟨hf, by omega, by omega, by omega, by omega, by constructor <;> omega, ?_⟩
        have st := pt_step (D := dv W j) (m := m) (Rj := dv R j) (r := R j) (o := o) (w := W j) (x := x) (P := pw j) hx
        have p0 : 0 ≤ x % 1000000000 * pw j := Int.mul_nonneg m0' (Int.le_of_lt (pw_pos j))
        have p1 : x % 1000000000 * pw j ≤ 999999999 * pw j := Int.mul_le_mul_of_nonneg_right (by omega) (Int.le_of_lt (pw_pos j))
        refine ih (j + 1) _ (by omega) pv.2.2.1 pv.2.2.2 ?_ ?_
        · rw [dv_s W j, dv_s R j, pw_s j, st]; omega
        · rw [dv_s W j, dv_s R j, pw_s j, st]; omega
      refine bk_X12_goesInto_6 ⟨by constructor <;> omega, fun w => absurd w (by omega), fun _ => ⟨by constructor <;> omega, by constructor <;> omega, fun _ => nxt, fun w => ⟨by constructor <;> omega, fun w2 => ⟨fun w3 => absurd w2 w3, fun _ => ?_⟩, fun _ => nxt⟩⟩⟩
      have mo := dv_mono dW (show j ≤ 16 - u by omega)
      rw [w2, Int.zero_mul] at e0
      rw [hRz j (by omega) (by omega), decide_eq_true (by omega)] at h; exact h
  refine bk_X12_goesInto (key (16 - u) 0 0 (by omega) (by decide) (by decide) ?_ ?_)
  · show 0 ≤ (0 : Int) - m * 0 + 0 * 1; omega
  · show (0 : Int) - m * 0 + 0 * 1 < 1; omega
