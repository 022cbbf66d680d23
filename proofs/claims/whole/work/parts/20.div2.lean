theorem dv_top (f : Int → Int) (i : Int) (n : Nat) : dv (sh f i) (n + 1) = f i + 1000000000 * dv (sh f (i + 1)) n := by
  have h := dv_split (sh f i) 1 n
  rw [Nat.add_comm] at h
  rw [h]
  have e1 : dv (sh f i) 1 = f i := by
    show 0 + sh f i 0 * 1 = f i
    unfold sh
    rw [Int.add_zero]; omega
  have e2 : sh (sh f i) ((1 : Nat) : Int) = sh f (i + 1) := by
    funext j
    unfold sh
    congr 1
    omega
  rw [e1, e2]
  rfl
/-- what a division left: the rest times the scale, in the divider's first row -/
def RS (σ : ZM) (d r : Int) : Prop := ∃ len : Nat, σ d 2 = len ∧ 1 ≤ len ∧ len ≤ 12 ∧ 1 ≤ σ d 3 ∧ σ d 3 ≤ 1000000000 ∧ dg (σ (d + 1)) len ∧ dv (σ (d + 1)) len = r * σ d 3
theorem z_kdw {d a : Int} (hd : z_l d = (1, 4)) (ha : z_l a = (9, 3)) : d ≠ a ∧ d ≠ a + 1 ∧ d + 1 ≠ a ∧ d + 2 ≠ a ∧ d + 1 ≠ a + 1 ∧ d + 2 ≠ a + 1 := by
  have h1 := zo_1_0 hd
  have h2 := zo_1_1 hd
  have h3 := zo_9_0 ha
  refine ⟨z_nek hd ha (by decide), z_nek hd h3 (by decide), z_nek h1 ha (by decide), z_nek h2 ha (by decide), ?_, ?_⟩
  · intro q; rw [q, h3] at h1; cases h1
  · intro q; rw [q, h3] at h2; cases h2
theorem c_takeRest {X : ZS} {σ : ZM} {T : ZM → Prop} {d a r : Int} (hd : z_l d = (1, 4)) (ha : z_l a = (9, 3)) (hf : Fix σ) (hw : WF σ a) (hrs : RS σ d r) (h : ∀ σ', OnW a σ σ' → WF σ' a → wv σ' a = r → T σ') : ZC X (rX1_takeRest zN) mX1_takeRest [(2, d), (2, a)] zN σ (zQv T) := by
  obtain ⟨len, hln, hl1, hl12, hs1, hs2, hdg, hdv⟩ := hrs
  obtain ⟨n1, n2, n3, n4, n5, n6⟩ := z_kdw hd ha
  have hda := zo_1_0 hd
  have hnn := z_leN (zo_9_0 ha) (by decide)
  refine bk_X1_takeRest hd ha (c_clear ha hnn (hf.get ha 0 1 (by decide +kernel)) hw.1 hw.2.1 hw.2.2.2.1 (fun σ2 ho2 g1 g2 g3 => ?_))
  have eD : ∀ {τ : ZM}, OnW a σ τ → τ d 2 = len ∧ τ d 3 = σ d 3 ∧ τ (d + 1) = σ (d + 1) := fun {τ} ho => ⟨by rw [ho d 2 (fun q => n1 q.1) n2]; exact hln, ho d 3 (fun q => n1 q.1) n2, by funext i; exact ho _ _ (fun q => n3 q.1) n5⟩
  obtain ⟨s, hs⟩ : ∃ s : Int, s = σ d 3 := ⟨_, rfl⟩
  rw [← hs] at hs1 hs2 hdv
  have key : ∀ (i l : Nat) (c : Int) (τ : ZM), i + l = len → 0 ≤ c → c < s → OnW a σ τ → dg (τ (a + 1)) 12 → (∀ j : Int, 0 ≤ j → j < i → τ (a + 1) j = 0) → (∀ j : Int, len ≤ j → j < 12 → τ (a + 1) j = 0) → dv (sh (τ (a + 1)) i) l * s + c = dv (sh (σ (d + 1)) i) l →
      Z X (rX1_takeRest zN) mX1_takeRest 14 [(2, d), (2, a), (1, c), (9, 0), (0, (i : Int) - 1), (9, 0), (9, 0), (9, 0), (9, 0)] [] zN τ (zQv T) := by
    intro i
    induction i with
    | zero =>
      intro l c τ hil hc0 hc1 ho hdg2 hz1 hz2 he
      have hll : l = len := by omega
      subst hll
      obtain ⟨e1, e2, e3⟩ := eD ho
      refine bk_X1_takeRest_14 hd ha ⟨by constructor <;> omega, fun _ => ?_, fun q => absurd (by omega) q⟩
      rw [e1]
      have es : ∀ f : Int → Int, sh f ((0 : Nat) : Int) = f := fun f => by funext j; unfold sh; congr 1; omega
      rw [es, es, hdv] at he
      have hv : dv (τ (a + 1)) l = r := by
        have h1 : (r - dv (τ (a + 1)) l) * s = c := by rw [Int.sub_mul]; omega
        have h2 : r - dv (τ (a + 1)) l = 0 := by
          apply Classical.byContradiction
          intro w
          rcases Int.lt_or_le (r - dv (τ (a + 1)) l) 0 with q | q
          · have := Int.mul_le_mul_of_nonneg_right (show r - dv (τ (a + 1)) l ≤ -1 by omega) (show 0 ≤ s by omega)
            omega
          · have := Int.mul_le_mul_of_nonneg_right (show 1 ≤ r - dv (τ (a + 1)) l by omega) (show 0 ≤ s by omega)
            omega
        omega
      have hwm : wm τ a = r := by
        unfold wm
        rw [dv_zero hl12 hz2, hv]
      refine c_trim ha hnn ((ho.fix ha hf).get ha 0 1 (by decide +kernel)) hdg2 (by constructor <;> omega) (fun j q1 q2 q3 => hz2 j q2 q3) (Or.inr (Or.inr rfl)) (fun _ => by decide) (fun σ' ho3 hwf _ hv2 => h σ' (ho.trans ho3) hwf ?_)
      rw [hv2, hwm, Int.one_mul]
    | succ i ih =>
      intro l c τ hil hc0 hc1 ho hdg2 hz1 hz2 he
      obtain ⟨e1, e2, e3⟩ := eD ho
      have e0 : ((i + 1 : Nat) : Int) - 1 = i := by omega
      rw [e0]
      have rR := hdg i (by omega) (by omega)
      have hc2 : c * 1000000000 + 1000000000 ≤ s * 1000000000 := by omega
      obtain ⟨v, hv⟩ : ∃ v : Int, v = c * 1000000000 + σ (d + 1) i := ⟨_, rfl⟩
      have hv0 : 0 ≤ v := by omega
      have hq0 : 0 ≤ v / s := Int.ediv_nonneg hv0 (by omega)
      have hq1 : v / s < 1000000000 := Int.ediv_lt_of_lt_mul (by omega) (by rw [Int.mul_comm]; omega)
      have hm0 : 0 ≤ v % s := Int.emod_nonneg _ (by omega)
      have hm1 : v % s < s := Int.emod_lt_of_pos _ (by omega)
      have hdm := Int.mul_ediv_add_emod v s
      refine bk_X1_takeRest_14 hd ha ⟨by constructor <;> omega, fun q => absurd q (by omega), fun _ => ⟨by rw [e2, ← hs]; constructor <;> omega, fun q => absurd q (by rw [e2, ← hs]; omega), fun _ => ⟨ho.fix ha hf, by omega, by omega, by rw [e3]; constructor <;> omega, ?_⟩⟩⟩
      rw [e2, e3, ← hs, ← hv]
      refine ⟨by constructor <;> omega, by omega, by omega, ?_⟩
      rw [Int.tdiv_eq_ediv_of_nonneg hv0, show v - v / s * s = v % s by rw [Int.mul_comm]; omega]
      have step := ih (l + 1) (v % s) (z_up τ (a + 1) i (v / s)) (by omega) hm0 hm1 ho.upA (by rw [z_up_row]; exact dg_fu hdg2 hq0 hq1) (fun j q1 q2 => by rw [z_up_row, fu_n _ _ (by omega)]; exact hz1 j q1 (by omega)) (fun j q1 q2 => by rw [z_up_row, fu_n _ _ (by omega)]; exact hz2 j q1 q2) ?_
      · exact step
      · rw [dv_top, dv_top, z_up_row, fu_s, show ((i : Int) + 1) = ((i + 1 : Nat) : Int) by omega, ← he]
        have e4 : dv (sh (fu (τ (a + 1)) i (v / s)) ((i + 1 : Nat) : Int)) l = dv (sh (τ (a + 1)) ((i + 1 : Nat) : Int)) l := dv_congr (fun j q1 q2 => by
          unfold sh; rw [fu_n _ _ (by omega)])
        rw [e4]
        have e5 : (v / s + 1000000000 * dv (sh (τ (a + 1)) ((i + 1 : Nat) : Int)) l) * s = s * (v / s) + 1000000000 * (dv (sh (τ (a + 1)) ((i + 1 : Nat) : Int)) l * s) := by
          rw [Int.add_mul, Int.mul_comm (v / s), Int.mul_assoc]
        rw [e5]
        omega
  obtain ⟨e1, e2, e3⟩ := eD ho2
  rw [e1]
  refine key len 0 0 σ2 (by omega) (by decide) (by omega) ho2 (fun i q1 q2 => by rw [g3 i q1 q2]; decide) (fun j q1 q2 => g3 j q1 (by omega)) (fun j q1 q2 => g3 j (by omega) q2) ?_
  show (0 : Int) * _ + 0 = 0
  rw [Int.zero_mul]; rfl
