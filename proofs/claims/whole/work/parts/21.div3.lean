theorem OnD.trans {d q : Int} {σ σ1 σ2 : ZM} (h1 : OnD d q σ σ1) (h2 : OnD d q σ1 σ2) : OnD d q σ σ2 := fun c i a1 a2 a3 a4 a5 => (h2 c i a1 a2 a3 a4 a5).trans (h1 c i a1 a2 a3 a4 a5)
theorem OnD.ofR {d q : Int} {σ σ1 : ZM} {r : Int} (h : OnR r σ σ1) (hr : r = d + 1 ∨ r = d + 2) : OnD d q σ σ1 := fun c i a1 a2 a3 a4 a5 => h c i (by omega)
theorem OnD.ofW {d q : Int} {σ σ1 : ZM} (h : OnW q σ σ1) : OnD d q σ σ1 := fun c i a1 a2 a3 a4 a5 => h c i a4 a5
theorem OnD.rfl' {d q : Int} {σ : ZM} : OnD d q σ σ := fun _ _ _ _ _ _ _ => rfl
theorem OnD.up {d q x : Int} {σ σ1 : ZM} (h : OnD d q σ σ1) (i : Int) (hi : i = 2 ∨ i = 3) : OnD d q σ (z_up σ1 d i x) := fun c j a1 a2 a3 a4 a5 => by
  rw [z_up_ne]
  · exact h c j a1 a2 a3 a4 a5
  · by_cases hc : c = d
    · refine Or.inr (fun w => a1 ⟨hc, ?_⟩)
      rw [w]; exact hi
    · exact Or.inl hc
theorem OnD.upR {d q i x : Int} {σ σ1 : ZM} (h : OnD d q σ σ1) : OnD d q σ (z_up σ1 (d + 1) i x) := fun c j a1 a2 a3 a4 a5 => by
  rw [z_up_ne _ (Or.inl a2)]
  exact h c j a1 a2 a3 a4 a5
theorem OnD.upQ {d q i x : Int} {σ σ1 : ZM} (h : OnD d q σ σ1) : OnD d q σ (z_up σ1 (q + 1) i x) := fun c j a1 a2 a3 a4 a5 => by
  rw [z_up_ne _ (Or.inl a5)]
  exact h c j a1 a2 a3 a4 a5
theorem OnD.fix {d q : Int} {σ σ' : ZM} (h : OnD d q σ σ') (hd : z_l d = (1, 4)) (hq : z_l q = (9, 3)) (hf : Fix σ) : Fix σ' := by
  intro c k e he
  rw [h c k]
  · exact hf c k e he
  · rintro ⟨rfl, hk⟩
    rw [hd] at he
    have e2 : z_off 1 2 = none := by decide +kernel
    have e3 : z_off 1 3 = none := by decide +kernel
    rcases hk with hk | hk
    · rw [show k = 2 by omega, e2] at he; cases he
    · rw [show k = 3 by omega, e3] at he; cases he
  · rintro rfl; rw [zo_1_0 hd, z_off_arr (by decide)] at he; cases he
  · rintro rfl; rw [zo_1_1 hd, z_off_arr (by decide)] at he; cases he
  · rintro ⟨rfl, hk⟩
    rw [hq] at he
    have e2 : z_off 9 1 = none := by decide +kernel
    have e3 : z_off 9 2 = none := by decide +kernel
    rcases hk with hk | hk
    · rw [show k = 1 by omega, e2] at he; cases he
    · rw [show k = 2 by omega, e3] at he; cases he
  · rintro rfl; rw [zo_9_0 hq, z_off_arr (by decide)] at he; cases he
/-- another Whole is as it was -/
theorem OnD.oth {d q b : Int} {σ σ' : ZM} (h : OnD d q σ σ') (hd : z_l d = (1, 4)) (hq : z_l q = (9, 3)) (hb : z_l b = (9, 3)) (hbq : b ≠ q) : (∀ i, σ' b i = σ b i) ∧ σ' (b + 1) = σ (b + 1) := by
  obtain ⟨n1, n2, n3, n4, n5, n6⟩ := z_kdw hd hb
  obtain ⟨m1, m2⟩ := z_kne hq hb
  refine ⟨fun i => h b i (fun w => n1 w.1.symm) (Ne.symm n3) (Ne.symm n4) (fun w => hbq w.1) m1, ?_⟩
  funext i
  exact h _ _ (fun w => n2 w.1.symm) (Ne.symm n5) (Ne.symm n6) (fun w => m2 w.1) (by omega)
theorem OnD.wf {d q b : Int} {σ σ' : ZM} (h : OnD d q σ σ') (hd : z_l d = (1, 4)) (hq : z_l q = (9, 3)) (hb : z_l b = (9, 3)) (hbq : b ≠ q) (hw : WF σ b) : WF σ' b ∧ wv σ' b = wv σ b ∧ wm σ' b = wm σ b := by
  obtain ⟨h1, h2⟩ := h.oth hd hq hb hbq
  unfold WF wv wm
  rw [h2, h1, h1]
  exact ⟨hw, rfl, rfl⟩
theorem c_divideByPart {X : ZS} {σ : ZM} {T : ZM → Prop} {d a q D : Int} (hd : z_l d = (1, 4)) (ha : z_l a = (9, 3)) (hq : z_l q = (9, 3)) (hf : Fix σ) (hwa : WF σ a) (hwq : WF σ q) (hD0 : 0 < D) (hD1 : D < 1000000000)
    (h : ∀ σ', OnD d q σ σ' → σ' d 2 = σ d 2 → σ' d 3 = 1 → σ' (d + 1) 0 = wm σ a % D → (∀ i, σ' q i = σ q i) → dg (σ' (q + 1)) 12 → (∀ j : Int, σ a 1 ≤ j → j < 12 → σ' (q + 1) j = 0) → dv (σ' (q + 1)) 12 = wm σ a / D → T σ') :
    ZC X (rX1_divideByPart zN) mX1_divideByPart [(2, d), (2, a), (1, D), (2, q)] zN σ (zQv T) := by
  have a1 := hwa.1
  have a2 := hwa.2.1
  have q1 := hwq.1
  have q2 := hwq.2.1
  obtain ⟨n1, n2, n3, n4, n5, n6⟩ := z_kdw hd hq
  obtain ⟨m, hm⟩ : ∃ m : Nat, (m : Int) = max (σ a 1) (σ q 1) := ⟨(max (σ a 1) (σ q 1)).toNat, by omega⟩
  have hm12 : m ≤ 12 := by omega
  have hda : dv (σ (a + 1)) m = wm σ a := (hwa.dvz hm12 (by omega)).symm
  have key : ∀ (i l : Nat) (c : Int) (τ : ZM), i + l = m → 0 ≤ c → c < D → OnD d q σ τ → (∀ j, τ d j = σ d j) → (∀ j, τ q j = σ q j) → dg (τ (q + 1)) 12 → (∀ j : Int, j < i → τ (q + 1) j = σ (q + 1) j) → (∀ j : Int, m ≤ j → τ (q + 1) j = σ (q + 1) j) → (∀ j : Int, i ≤ j → σ a 1 ≤ j → j < m → τ (q + 1) j = 0) → ((σ a 1 ≤ i) → c = 0) → dv (sh (τ (q + 1)) i) l * D + c = dv (sh (σ (a + 1)) i) l →
      Z X (rX1_divideByPart zN) mX1_divideByPart 19 [(2, d), (2, a), (1, D), (9, 0), (2, q), (1, c), (9, 0), (0, (i : Int) - 1), (9, 0), (9, 0), (9, 0), (9, 0)] [] zN τ (zQv T) := by
    intro i
    induction i with
    | zero =>
      intro l c τ hil hc0 hc1 ho hsd hsq hdg hlo hhi hz hcz he
      have hll : l = m := by omega
      subst hll
      refine bk_X1_divideByPart_19 hd ha hq ⟨by constructor <;> omega, fun _ => ⟨ho.fix hd hq hf, ?_⟩, fun w => absurd (by omega) w⟩
      have es : ∀ f : Int → Int, sh f ((0 : Nat) : Int) = f := fun f => by funext j; unfold sh; congr 1; omega
      rw [es, es, hda] at he
      have hzz : ∀ j : Int, σ a 1 ≤ j → j < 12 → τ (q + 1) j = 0 := fun j g1 g2 => by
        rcases Int.lt_or_le j l with w | w
        · exact hz j (by omega) g1 w
        · rw [hhi j w]; exact hwq.2.2.2.1 j (by omega) g2
      have hdq : dv (τ (q + 1)) 12 = dv (τ (q + 1)) l := dv_zero hm12 (fun j g1 g2 => hzz j (by omega) g2)
      have hdiv : wm σ a / D = dv (τ (q + 1)) l := z_ediv_u hD0 (by rw [Int.mul_comm]; omega) (by rw [Int.mul_comm]; omega)
      have hmod : wm σ a % D = c := by
        have := Int.mul_ediv_add_emod (wm σ a) D
        rw [hdiv, Int.mul_comm] at this
        omega
      refine h _ ((ho.up 3 (Or.inr rfl)).upR) ?_ ?_ ?_ (fun j => ?_) ?_ (fun j g1 g2 => ?_) ?_
      · rw [z_up_far _ _ _ (by omega), z_up_ne _ (Or.inr (by decide))]; exact hsd 2
      · rw [z_up_far _ _ _ (by omega), z_up_same]
      · rw [z_up_same, hmod]
      · rw [z_up_far _ _ _ (Ne.symm n3), z_up_far _ _ _ (Ne.symm n1)]; exact hsq j
      all_goals rw [z_up_far _ _ _ (Ne.symm n5), z_up_far _ _ _ (Ne.symm n2)]
      · exact hdg
      · exact hzz j g1 g2
      · rw [hdq, hdiv]
    | succ i ih =>
      intro l c τ hil hc0 hc1 ho hsd hsq hdg hlo hhi hz hcz he
      have e0 : ((i + 1 : Nat) : Int) - 1 = i := by omega
      rw [e0]
      have eA : τ (a + 1) i = σ (a + 1) i := by
        by_cases haq : a = q
        · subst haq; exact hlo i (by omega)
        · rw [(ho.oth hd hq ha haq).2]
      have rA := hwa.2.2.1 i (by omega) (by omega)
      obtain ⟨v, hv⟩ : ∃ v : Int, v = c * 1000000000 + σ (a + 1) i := ⟨_, rfl⟩
      have hv0 : 0 ≤ v := by omega
      have hq0 : 0 ≤ v / D := Int.ediv_nonneg hv0 (by omega)
      have hq1 : v / D < 1000000000 := Int.ediv_lt_of_lt_mul hD0 (by rw [Int.mul_comm]; omega)
      have hm0 : 0 ≤ v % D := Int.emod_nonneg _ (by omega)
      have hm1 : v % D < D := Int.emod_lt_of_pos _ hD0
      have hdm := Int.mul_ediv_add_emod v D
      refine bk_X1_divideByPart_19 hd ha hq ⟨by constructor <;> omega, fun w => absurd w (by omega), fun _ => ⟨ho.fix hd hq hf, by omega, by omega, by rw [eA]; constructor <;> omega, by constructor <;> omega, fun w => absurd w (by omega), fun _ => ?_⟩⟩
      rw [eA, ← hv]
      refine ⟨by constructor <;> omega, by omega, fun w => absurd w (by omega), fun _ => ?_⟩
      rw [Int.tdiv_eq_ediv_of_nonneg hv0, show v - v / D * D = v % D by rw [Int.mul_comm]; omega]
      have hvz : σ a 1 ≤ i → v = 0 := fun w => by
        have := hcz (by omega)
        have := hwa.2.2.2.1 i w (by omega)
        omega
      have step := ih (l + 1) (v % D) (z_up τ (q + 1) i (v / D)) (by omega) hm0 hm1 ho.upQ (fun j => by rw [z_up_far _ _ _ n2]; exact hsd j) (fun j => by rw [z_up_far _ _ _ (by omega)]; exact hsq j) (by rw [z_up_row]; exact dg_fu hdg hq0 hq1) (fun j g1 => by rw [z_up_row, fu_n _ _ (by omega)]; exact hlo j (by omega)) (fun j g1 => by rw [z_up_row, fu_n _ _ (by omega)]; exact hhi j g1) (fun j g1 g2 g3 => ?_) (fun w => by rw [hvz w]; exact Int.zero_emod D) ?_
      · exact step
      · rw [z_up_row]
        by_cases hj : j = i
        · subst hj; rw [fu_s, hvz g2]; exact Int.zero_ediv D
        · rw [fu_n _ _ hj]; exact hz j (by omega) g2 g3
      · rw [dv_top, dv_top, z_up_row, fu_s, show ((i : Int) + 1) = ((i + 1 : Nat) : Int) by omega, ← he]
        have e4 : dv (sh (fu (τ (q + 1)) i (v / D)) ((i + 1 : Nat) : Int)) l = dv (sh (τ (q + 1)) ((i + 1 : Nat) : Int)) l := dv_congr (fun j g1 g2 => by
          unfold sh; rw [fu_n _ _ (by omega)])
        rw [e4]
        have e5 : (v / D + 1000000000 * dv (sh (τ (q + 1)) ((i + 1 : Nat) : Int)) l) * D = D * (v / D) + 1000000000 * (dv (sh (τ (q + 1)) ((i + 1 : Nat) : Int)) l * D) := by
          rw [Int.add_mul, Int.mul_comm (v / D), Int.mul_assoc]
        rw [e5]
        omega
  refine bk_X1_divideByPart hd ha hq ⟨hwa.s32, hwq.s32, ?_⟩
  rw [← hm]
  refine key m 0 0 σ (by omega) (by decide) hD0 OnD.rfl' (fun _ => rfl) (fun _ => rfl) hwq.2.2.1 (fun _ _ => rfl) (fun _ _ => rfl) (fun j g1 g2 g3 => absurd g3 (by omega)) (fun _ => rfl) ?_
  show (0 : Int) * _ + 0 = 0
  rw [Int.zero_mul]; rfl
