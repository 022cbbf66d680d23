theorem mv_low (σ : ZM) (k : Int) : ∃ q : Int, mv σ k = mr σ k 0 + 1000000000 * q := by
  have h := dv_top (mr σ k) 0 15
  have e : sh (mr σ k) 0 = mr σ k := by funext j; unfold sh; congr 1; omega
  rw [e] at h
  exact ⟨_, h⟩
theorem c_isEven {X : ZS} {σ : ZM} {T : Bool → ZM → Prop} {a : Int} (h0 : 0 ≤ a) (h1 : a < 132) (hf : Fix σ) (hm : MF σ a)
    (h : T (decide (mv σ a % 2 = 0)) σ) : ZC X (rX12_isEven zN) mX12_isEven [(2, 211), (0, a)] zN σ (zQz T) := by
  have e : σ 212 (16 * a) = mr σ a 0 := by unfold mr sh; congr 1; omega
  have r := hm.1 0 (by decide) (by decide)
  obtain ⟨q, hq⟩ := mv_low σ a
  refine bk_X12_isEven ⟨hf, by omega, by omega, ?_, ?_, fun w => ?_, fun w => ?_⟩
  · rw [e]; constructor <;> omega
  · rw [e, Int.tmod_eq_emod_of_nonneg r.1]; constructor <;> omega
  · rw [e, Int.tmod_eq_emod_of_nonneg r.1] at w
    rw [decide_eq_false (by omega)] at h; exact h
  · rw [e, Int.tmod_eq_emod_of_nonneg r.1] at w
    rw [decide_eq_true (by omega)] at h; exact h
theorem c_half {X : ZS} {σ : ZM} {T : ZM → Prop} {v : Int → Int} {a : Int} (h0 : 0 ≤ a) (h1 : a < 132) (hN : NM σ v) (hv : 0 ≤ v a)
    (h : ∀ σ', Mo σ σ' → NM σ' (fu v a (v a / 2)) → T σ') : ZC X (rX12_half zN) mX12_half [(2, 211), (0, a)] zN σ (zQv T) := by
  have hm := hN.2 a h0 h1
  have d16 : dg (mr σ a) 16 := fun j j0 j1 => by
    rcases Int.lt_or_le j 15 with w | w
    · exact hm.1.1 j j0 (by omega)
    · have : j = 15 := by omega
      subst this
      rw [hm.1.rng.2.2.2.mp (by rw [hm.2]; exact hv)]; decide
  have key : ∀ (k l : Nat) (r : Int) (τ : ZM), k + l = 16 → 0 ≤ r → r < 2 → OnK a σ τ → dg (mr τ a) 16 → (∀ j : Int, 0 ≤ j → j < k → mr τ a j = mr σ a j) → dv (sh (mr τ a) k) l * 2 + r = dv (sh (mr σ a) k) l →
      Z X (rX12_half zN) mX12_half 6 [(2, 211), (0, a), (1, r), (9, 0), (0, (k : Int) - 1), (9, 0), (9, 0)] [] zN τ (zQv T) := by
    intro k
    induction k with
    | zero =>
      intro l r τ hl r0 r1 ho hd hs he
      have : l = 16 := by omega
      subst this
      refine bk_X12_half_6 ⟨by constructor <;> omega, fun _ => ?_, fun w => absurd (by omega) w⟩
      have es : ∀ f : Int → Int, sh f ((0 : Nat) : Int) = f := fun f => by funext j; unfold sh; congr 1; omega
      rw [es, es] at he
      have he' : mv τ a * 2 + r = mv σ a := he
      rw [hm.2] at he'
      have rv := hN.rng h0 h1
      exact h τ (Mo.ofK ho) (hN.on ho (mf_of (hd.mono (by decide)) (by omega) (by omega)) (by omega))
    | succ k ih =>
      intro l r τ hl r0 r1 ho hd hs he
      have e0 : ((k + 1 : Nat) : Int) - 1 = k := by omega
      rw [e0]
      have e1 : τ 212 (16 * a + k) = mr σ a k := hs k (by omega) (by omega)
      have rk := d16 k (by omega) (by omega)
      obtain ⟨x, hx⟩ : ∃ x : Int, x = r * 1000000000 + mr σ a k := ⟨_, rfl⟩
      refine bk_X12_half_6 ⟨by constructor <;> omega, fun w => absurd w (by omega), fun _ => ⟨ho.fix hN.1, by omega, by omega, ?_⟩⟩
      rw [e1, ← hx]
      refine ⟨by constructor <;> omega, ?_⟩
      rw [Int.tdiv_eq_ediv_of_nonneg (by omega), Int.tmod_eq_emod_of_nonneg (by omega)]
      refine ih (l + 1) (x % 2) _ (by omega) (by omega) (by omega) (ho.up (by omega) (by omega)) (by rw [mr_up]; exact dg_fu hd (by omega) (by omega)) (fun j j0 j1 => by rw [mr_up, fu_n _ _ (by omega)]; exact hs j j0 (by omega)) ?_
      rw [mr_up, dv_top, dv_top, fu_s, show (k : Int) + 1 = ((k + 1 : Nat) : Int) by omega, ← he]
      have e4 : dv (sh (fu (mr τ a) k (x / 2)) ((k + 1 : Nat) : Int)) l = dv (sh (mr τ a) ((k + 1 : Nat) : Int)) l := dv_congr (fun j q1 q2 => by
        unfold sh; rw [fu_n _ _ (by omega)])
      rw [e4]
      omega
  exact bk_X12_half (key 16 0 0 σ (by decide) (by decide) (by decide) OnK.rfl' d16 (fun _ _ _ => rfl) rfl)
theorem c_isLess {X : ZS} {σ : ZM} {T : Bool → ZM → Prop} {a b : Int} (a0 : 0 ≤ a) (a1 : a < 132) (b0 : 0 ≤ b) (b1 : b < 132) (hf : Fix σ) (ha : MF σ a) (hb : MF σ b)
    (h : T (decide (mv σ a < mv σ b)) σ) : ZC X (rX12_isLess zN) mX12_isLess [(2, 211), (0, a), (0, b)] zN σ (zQz T) := by
  have ra := ha.rng
  have rb := hb.rng
  have key : ∀ k : Nat, k ≤ 16 → (∀ j : Int, k ≤ j → j < 16 → mr σ a j = mr σ b j) → Z X (rX12_isLess zN) mX12_isLess 3 [(2, 211), (0, a), (0, b), (0, (k : Int) - 1), (9, 0), (9, 0), (9, 0), (9, 0)] [] zN σ (zQz T) := by
    intro k
    induction k with
    | zero =>
      intro _ he
      refine bk_X12_isLess_3 ⟨by constructor <;> omega, fun _ => ?_, fun w => absurd (by omega) w⟩
      have : mv σ a = mv σ b := dv_congr (fun j j0 j1 => he j j0 j1)
      rw [decide_eq_false (by omega)] at h; exact h
    | succ k ih =>
      intro hk he
      have e0 : ((k + 1 : Nat) : Int) - 1 = k := by omega
      rw [e0]
      have e1 : σ 212 (16 * a + k) = mr σ a k := rfl
      have e2 : σ 212 (16 * b + k) = mr σ b k := rfl
      have r1 := ha.r (j := k) (by omega) (by omega)
      have r2 := hb.r (j := k) (by omega) (by omega)
      have less : ∀ {c d : Int}, MF σ c → MF σ d → (∀ j : Int, ((k + 1 : Nat) : Int) ≤ j → j < 16 → mr σ c j = mr σ d j) → mr σ c k < mr σ d k → mv σ c < mv σ d := by
        intro c d hc hd hs hlt
        have r1 := hc.rng
        have r2 := hd.rng
        rcases Nat.lt_or_ge k 15 with w | w
        · have t := hs 15 (by omega) (by decide)
          have := dv_lt hc.1 hd.1 w (fun i i0 i1 => hs i (by omega) (by omega)) hlt
          have e1 := mv_top σ c
          have e2 := mv_top σ d
          rw [t] at e1
          omega
        · have : k = 15 := by omega
          subst this
          have q1 := hc.2
          have q2 := hd.2
          rw [show ((15 : Nat) : Int) = 15 from rfl] at hlt
          omega
      refine bk_X12_isLess_3 ⟨by constructor <;> omega, fun w => absurd w (by omega), fun _ => ⟨hf, by omega, by omega, by omega, by omega, ?_⟩⟩
      rw [e1, e2]
      refine ⟨by constructor <;> omega, by constructor <;> omega, fun w => ?_, fun w => ⟨fun w2 => ?_, fun w2 => ?_⟩⟩
      · refine ih (by omega) (fun j j0 j1 => ?_)
        by_cases hj : j = k
        · rw [hj]; exact w
        · exact he j (by omega) j1
      · have := less hb ha (fun j j0 j1 => (he j j0 j1).symm) (by omega)
        rw [decide_eq_false (by omega)] at h; exact h
      · have := less ha hb he (by omega)
        rw [decide_eq_true (by omega)] at h; exact h
  exact bk_X12_isLess (key 16 (Nat.le_refl _) (fun j j0 j1 => absurd j1 (by omega)))
