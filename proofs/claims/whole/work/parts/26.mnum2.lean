/-- all the model's numbers are in form and have the values v -/
def NM (σ : ZM) (v : Int → Int) : Prop := Fix σ ∧ ∀ k : Int, 0 ≤ k → k < 132 → MF σ k ∧ mv σ k = v k
/-- nothing but numbers of the model, and its three rows for them, has changed -/
def Mo (σ σ' : ZM) : Prop := ∀ c : Int, c ≠ 212 → c ≠ 221 → c ≠ 222 → c ≠ 223 → σ' c = σ c
theorem Mo.rfl' {σ : ZM} : Mo σ σ := fun _ _ _ _ _ => rfl
theorem Mo.trans {σ σ1 σ2 : ZM} (h1 : Mo σ σ1) (h2 : Mo σ1 σ2) : Mo σ σ2 := fun c a1 a2 a3 a4 => (h2 c a1 a2 a3 a4).trans (h1 c a1 a2 a3 a4)
theorem Mo.ofK {k : Int} {σ σ' : ZM} (h : OnK k σ σ') : Mo σ σ' := fun _ h1 _ _ _ => h.far h1
theorem NM.on {σ σ' : ZM} {v : Int → Int} {a x : Int} (hN : NM σ v) (ho : OnK a σ σ') (hm : MF σ' a) (hv : mv σ' a = x) : NM σ' (fu v a x) := by
  refine ⟨ho.fix hN.1, fun k k0 k1 => ?_⟩
  by_cases hk : k = a
  · subst hk; rw [fu_s]; exact ⟨hm, hv⟩
  · rw [fu_n _ _ hk, ho.val hk]; exact ⟨ho.mf hk (hN.2 k k0 k1).1, (hN.2 k k0 k1).2⟩
theorem NM.rng {σ : ZM} {v : Int → Int} (h : NM σ v) {k : Int} (h0 : 0 ≤ k) (h1 : k < 132) : -pw 15 ≤ v k ∧ v k < pw 15 := by
  have := (h.2 k h0 h1).1.rng
  rw [(h.2 k h0 h1).2] at this
  exact ⟨this.1, this.2.1⟩
theorem dv_lm (f g : Int → Int) (t : Int) : ∀ n : Nat, dv (fun j => f j + g j * t) n = dv f n + dv g n * t
  | 0 => by show (0 : Int) = 0 + 0 * t; omega
  | n + 1 => by
    rw [dv_s, dv_s, dv_s, dv_lm f g t n]
    grind
theorem dv_ng (f : Int → Int) : ∀ n : Nat, dv (fun j => - f j) n = - dv f n
  | 0 => rfl
  | n + 1 => by
    rw [dv_s, dv_s, dv_ng f n]
    grind
theorem dv_one (f : Int → Int) {n : Nat} (hn : 1 ≤ n) (h : ∀ j : Int, 1 ≤ j → j < n → f j = 0) : dv f n = f 0 := by
  rw [dv_zero (m := 1) hn h]
  show 0 + f 0 * 1 = _
  omega
theorem c_set {X : ZS} {σ : ZM} {T : ZM → Prop} {v : Int → Int} {a x : Int} (h0 : 0 ≤ a) (h1 : a < 132) (hN : NM σ v) (hx0 : -4000000000000000000 ≤ x) (hx1 : x ≤ 4000000000000000000)
    (h : ∀ σ', Mo σ σ' → NM σ' (fu v a x) → T σ') : ZC X (rX12_set zN) mX12_set [(2, 211), (0, a), (1, x)] zN σ (zQv T) := by
  have key : ∀ (l i : Nat) (τ : ZM), i + l = 16 → OnK a σ τ → (∀ j : Int, 0 ≤ j → j < i → mr τ a j = if j = 0 then x else 0) → Z X (rX12_set zN) mX12_set 3 [(2, 211), (0, a), (1, x), (9, 0), (0, (i : Int))] [] zN τ (zQv T) := by
    intro l
    induction l with
    | zero =>
      intro i τ hi ho hr
      have : i = 16 := by omega
      subst this
      refine bk_X12_set_3 ⟨by decide, fun _ => ?_, fun w => absurd (by decide) w⟩
      have hv : mv τ a = x := by
        unfold mv
        rw [dv_one _ (by decide) (fun j j0 j1 => by rw [hr j (by omega) j1, if_neg (by omega)]), hr 0 (by decide) (by decide), if_pos rfl]
      have hp : (4000000000000000000 : Int) < pw 15 := by unfold pw; decide +kernel
      refine c_carry h0 h1 (ho.fix hN.1) (fun j j0 j1 => ?_) (by omega) (by omega) (fun σ' o' m' v' => h σ' (Mo.ofK (ho.trans o')) (hN.on (ho.trans o') m' (v'.trans hv)))
      rw [hr j j0 (by omega)]
      split <;> omega
    | succ l ih =>
      intro i τ hi ho hr
      have go : ∀ y : Int, y = (if (i : Int) = 0 then x else 0) → Z X (rX12_set zN) mX12_set 3 [(2, 211), (0, a), (1, x), (9, 0), (0, ((i : Int) + 1))] [] zN (z_up τ 212 (16 * a + i) y) (zQv T) := by
        intro y hy
        refine ih (i + 1) _ (by omega) (ho.up (by omega) (by omega)) (fun j j0 j1 => ?_)
        rw [mr_up]
        by_cases hj : j = i
        · rw [hj, fu_s, hy]
        · rw [fu_n _ _ hj]; exact hr j j0 (by omega)
      refine bk_X12_set_3 ⟨by constructor <;> omega, fun w => absurd w (by omega), fun _ => ⟨ho.fix hN.1, fun w => ⟨by omega, by omega, ?_⟩, fun w => ⟨by omega, by omega, ?_⟩⟩⟩
      · exact go 0 (by rw [if_neg w])
      · exact go x (by rw [if_pos w])
  exact bk_X12_set (key 16 0 σ (by decide) OnK.rfl' (fun j j0 j1 => absurd j1 (by omega)))
theorem c_copy {X : ZS} {σ : ZM} {T : ZM → Prop} {v : Int → Int} {a b : Int} (h0 : 0 ≤ a) (h1 : a < 132) (b0 : 0 ≤ b) (b1 : b < 132) (hN : NM σ v)
    (h : ∀ σ', Mo σ σ' → NM σ' (fu v a (v b)) → T σ') : ZC X (rX12_copy zN) mX12_copy [(2, 211), (0, a), (0, b)] zN σ (zQv T) := by
  have key : ∀ (l i : Nat) (τ : ZM), i + l = 16 → OnK a σ τ → (∀ j : Int, 0 ≤ j → j < i → mr τ a j = mr σ b j) → (∀ j : Int, 0 ≤ j → j < 16 → mr τ b j = mr σ b j) → Z X (rX12_copy zN) mX12_copy 2 [(2, 211), (0, a), (0, b), (0, (i : Int))] [] zN τ (zQv T) := by
    intro l
    induction l with
    | zero =>
      intro i τ hi ho hr hb
      have : i = 16 := by omega
      subst this
      refine bk_X12_copy_2 ⟨by decide, fun _ => ?_, fun w => absurd (by decide) w⟩
      have hm := (hN.2 b b0 b1).1
      have hm' : MF τ a := by
        refine ⟨fun j j0 j1 => ?_, ?_⟩
        · rw [hr j j0 (by omega)]; exact hm.1 j j0 j1
        · rw [hr 15 (by decide) (by decide)]; exact hm.2
      exact h τ (Mo.ofK ho) (hN.on ho hm' ((dv_congr (fun j j0 j1 => hr j j0 j1)).trans (hN.2 b b0 b1).2))
    | succ l ih =>
      intro i τ hi ho hr hb
      refine bk_X12_copy_2 ⟨by constructor <;> omega, fun w => absurd w (by omega), fun _ => ⟨ho.fix hN.1, by omega, by omega, by omega, by omega, ?_⟩⟩
      have e : τ 212 (16 * b + i) = mr σ b i := hb i (by omega) (by omega)
      rw [e]
      refine ih (i + 1) _ (by omega) (ho.up (by omega) (by omega)) (fun j j0 j1 => ?_) (fun j j0 j1 => ?_)
      · rw [mr_up]
        by_cases hj : j = i
        · rw [hj, fu_s]
        · rw [fu_n _ _ hj]; exact hr j j0 (by omega)
      · by_cases hab : b = a
        · subst hab
          rw [mr_up]
          by_cases hj : j = i
          · rw [hj, fu_s]
          · rw [fu_n _ _ hj]; exact hb j j0 j1
        · rw [(OnK.rfl'.up (k := a) (by omega) (by omega) : OnK a τ _).oth hab j0 j1]
          exact hb j j0 j1
  exact bk_X12_copy (key 16 0 σ (by decide) OnK.rfl' (fun j j0 j1 => absurd j1 (by omega)) (fun _ _ _ => rfl))
theorem z_mb {x t : Int} (h1 : -1 ≤ x) (h2 : x < 1000000000) (ht : r32 t) : -2147483648000000000 ≤ x * t ∧ x * t ≤ 2147483648000000000 := by
  obtain ⟨a, b⟩ := ht
  rcases Int.lt_or_le x 0 with w | w
  · have : x = -1 := by omega
    subst this; omega
  · have e1 : x * t ≤ x * 2147483648 := Int.mul_le_mul_of_nonneg_left (by omega) w
    have e2 : x * (-2147483648) ≤ x * t := Int.mul_le_mul_of_nonneg_left (by omega) w
    omega
theorem c_more {X : ZS} {σ : ZM} {T : ZM → Prop} {v : Int → Int} {a b t : Int} (h0 : 0 ≤ a) (h1 : a < 132) (b0 : 0 ≤ b) (b1 : b < 132) (hab : b ≠ a) (hN : NM σ v) (ht : r32 t) (hlo : -pw 15 ≤ v a + v b * t) (hhi : v a + v b * t < pw 15)
    (h : ∀ σ', Mo σ σ' → NM σ' (fu v a (v a + v b * t)) → T σ') : ZC X (rX12_more zN) mX12_more [(2, 211), (0, a), (0, b), (1, t)] zN σ (zQv T) := by
  have key : ∀ (l i : Nat) (τ : ZM), i + l = 16 → OnK a σ τ → (∀ j : Int, 0 ≤ j → j < i → mr τ a j = mr σ a j + mr σ b j * t) → (∀ j : Int, i ≤ j → mr τ a j = mr σ a j) → Z X (rX12_more zN) mX12_more 3 [(2, 211), (0, a), (0, b), (1, t), (9, 0), (0, (i : Int))] [] zN τ (zQv T) := by
    intro l
    induction l with
    | zero =>
      intro i τ hi ho hr hs
      have : i = 16 := by omega
      subst this
      refine bk_X12_more_3 ⟨by decide, fun _ => ?_, fun w => absurd (by decide) w⟩
      have hv : mv τ a = v a + v b * t := by
        have e : mv τ a = dv (fun j => mr σ a j + mr σ b j * t) 16 := dv_congr (fun j j0 j1 => hr j j0 j1)
        rw [e, dv_lm]
        rw [← (hN.2 a h0 h1).2, ← (hN.2 b b0 b1).2]
        rfl
      refine c_carry h0 h1 (ho.fix hN.1) (fun j j0 j1 => ?_) (by omega) (by omega) (fun σ' o' m' v' => h σ' (Mo.ofK (ho.trans o')) (hN.on (ho.trans o') m' (v'.trans hv)))
      rw [hr j j0 (by omega)]
      have r1 := (hN.2 a h0 h1).1.r j0 (show j < 16 by omega)
      have r2 := (hN.2 b b0 b1).1.r j0 (show j < 16 by omega)
      have := z_mb r2.1 r2.2 ht
      omega
    | succ l ih =>
      intro i τ hi ho hr hs
      refine bk_X12_more_3 ⟨by constructor <;> omega, fun w => absurd w (by omega), fun _ => ⟨ho.fix hN.1, by omega, by omega, by omega, by omega, ?_⟩⟩
      have e1 : τ 212 (16 * a + i) = mr σ a i := hs i (by omega)
      have e2 : τ 212 (16 * b + i) = mr σ b i := ho.oth hab (by omega) (by omega)
      rw [e1, e2]
      refine ih (i + 1) _ (by omega) (ho.up (by omega) (by omega)) (fun j j0 j1 => ?_) (fun j j0 => ?_)
      · rw [mr_up]
        by_cases hj : j = i
        · rw [hj, fu_s]
        · rw [fu_n _ _ hj]; exact hr j j0 (by omega)
      · rw [mr_up, fu_n _ _ (by omega)]; exact hs j (by omega)
  exact bk_X12_more (key 16 0 σ (by decide) OnK.rfl' (fun j j0 j1 => absurd j1 (by omega)) (fun _ _ => rfl))
/-- turn, below the values: at the number a alone -/
theorem c_turnK {X : ZS} {σ : ZM} {T : ZM → Prop} {a : Int} (h0 : 0 ≤ a) (h1 : a < 132) (hf : Fix σ) (hm : MF σ a) (hlo : -pw 15 < mv σ a)
    (h : ∀ σ', OnK a σ σ' → MF σ' a → mv σ' a = -mv σ a → T σ') : ZC X (rX12_turn zN) mX12_turn [(2, 211), (0, a)] zN σ (zQv T) := by
  have hr0 := hm.rng
  have key : ∀ (l i : Nat) (τ : ZM), i + l = 16 → OnK a σ τ → (∀ j : Int, 0 ≤ j → j < i → mr τ a j = -mr σ a j) → (∀ j : Int, i ≤ j → mr τ a j = mr σ a j) → Z X (rX12_turn zN) mX12_turn 2 [(2, 211), (0, a), (0, (i : Int))] [] zN τ (zQv T) := by
    intro l
    induction l with
    | zero =>
      intro i τ hi ho hr hs
      have : i = 16 := by omega
      subst this
      refine bk_X12_turn_2 ⟨by decide, fun _ => ?_, fun w => absurd (by decide) w⟩
      have hv : mv τ a = -mv σ a := by
        have e : mv τ a = dv (fun j => -mr σ a j) 16 := dv_congr (fun j j0 j1 => hr j j0 j1)
        rw [e, dv_ng]
        rfl
      refine c_carry h0 h1 (ho.fix hf) (fun j j0 j1 => ?_) (by omega) (by omega) (fun σ' o' m' v' => h σ' (ho.trans o') m' (v'.trans hv))
      rw [hr j j0 (by omega)]
      have r1 := hm.r j0 (show j < 16 by omega)
      omega
    | succ l ih =>
      intro i τ hi ho hr hs
      refine bk_X12_turn_2 ⟨by constructor <;> omega, fun w => absurd w (by omega), fun _ => ⟨ho.fix hf, by omega, by omega, ?_⟩⟩
      have e1 : τ 212 (16 * a + i) = mr σ a i := hs i (by omega)
      rw [e1]
      refine ih (i + 1) _ (by omega) (ho.up (by omega) (by omega)) (fun j j0 j1 => ?_) (fun j j0 => ?_)
      · rw [mr_up]
        by_cases hj : j = i
        · rw [hj, fu_s]
        · rw [fu_n _ _ hj]; exact hr j j0 (by omega)
      · rw [mr_up, fu_n _ _ (by omega)]; exact hs j (by omega)
  exact bk_X12_turn (key 16 0 σ (by decide) OnK.rfl' (fun j j0 j1 => absurd j1 (by omega)) (fun _ _ => rfl))
theorem c_turn {X : ZS} {σ : ZM} {T : ZM → Prop} {v : Int → Int} {a : Int} (h0 : 0 ≤ a) (h1 : a < 132) (hN : NM σ v) (hlo : -pw 15 < v a)
    (h : ∀ σ', Mo σ σ' → NM σ' (fu v a (-v a)) → T σ') : ZC X (rX12_turn zN) mX12_turn [(2, 211), (0, a)] zN σ (zQv T) := by
  have hm := hN.2 a h0 h1
  exact c_turnK h0 h1 hN.1 hm.1 (by rw [hm.2]; exact hlo) (fun σ' o' m' v' => h σ' (Mo.ofK o') (hN.on o' m' (by rw [v', hm.2])))
theorem c_isBelow {X : ZS} {σ : ZM} {T : Bool → ZM → Prop} {a : Int} (h0 : 0 ≤ a) (h1 : a < 132) (hf : Fix σ) (hm : MF σ a)
    (h : T (decide (mv σ a < 0)) σ) : ZC X (rX12_isBelow zN) mX12_isBelow [(2, 211), (0, a)] zN σ (zQz T) := by
  have e : σ 212 (16 * a + 16 - 1) = mr σ a 15 := by
    unfold mr sh
    congr 1; omega
  have r := hm.rng
  refine bk_X12_isBelow ⟨hf, by omega, by omega, ?_, fun w => ?_, fun w => ?_⟩
  · rw [e]; rcases hm.2 with q | q <;> rw [q] <;> decide
  · rw [e] at w
    rw [decide_eq_false (by omega)] at h; exact h
  · rw [e] at w
    rw [decide_eq_true (by omega)] at h; exact h
theorem c_isZero {X : ZS} {σ : ZM} {T : Bool → ZM → Prop} {a : Int} (h0 : 0 ≤ a) (h1 : a < 132) (hf : Fix σ) (hm : MF σ a)
    (h : T (decide (mv σ a = 0)) σ) : ZC X (rX12_isZero zN) mX12_isZero [(2, 211), (0, a)] zN σ (zQz T) := by
  have key : ∀ (l i : Nat), i + l = 16 → (∀ j : Int, 0 ≤ j → j < i → mr σ a j = 0) → Z X (rX12_isZero zN) mX12_isZero 2 [(2, 211), (0, a), (0, (i : Int))] [] zN σ (zQz T) := by
    intro l
    induction l with
    | zero =>
      intro i hi hz
      have : i = 16 := by omega
      subst this
      refine bk_X12_isZero_2 ⟨by decide, fun _ => ?_, fun w => absurd (by decide) w⟩
      rw [decide_eq_true (hm.zero.mpr (fun j j0 j1 => hz j j0 j1))] at h; exact h
    | succ l ih =>
      intro i hi hz
      have e : σ 212 (16 * a + i) = mr σ a i := rfl
      have r := hm.r (j := i) (by omega) (by omega)
      refine bk_X12_isZero_2 ⟨by constructor <;> omega, fun w => absurd w (by omega), fun _ => ⟨hf, by omega, by omega, by rw [e]; constructor <;> omega, fun w => ?_, fun w => ?_⟩⟩
      · rw [e] at w
        refine ih (i + 1) (by omega) (fun j j0 j1 => ?_)
        by_cases hj : j = i
        · rw [hj]; exact w
        · exact hz j j0 (by omega)
      · rw [e] at w
        rw [decide_eq_false (fun q => w (hm.zero.mp q i (by omega) (by omega)))] at h; exact h
  exact bk_X12_isZero (key 16 0 (by decide) (fun j j0 j1 => absurd j1 (by omega)))
theorem c_sign {X : ZS} {σ : ZM} {T : Int → ZM → Prop} {a : Int} (h0 : 0 ≤ a) (h1 : a < 132) (hf : Fix σ) (hm : MF σ a)
    (h : T (if mv σ a = 0 then 0 else if mv σ a < 0 then -1 else 1) σ) : ZC X (rX12_sign zN) mX12_sign [(2, 211), (0, a)] zN σ (zQi T) := by
  refine bk_X12_sign (c_isZero h0 h1 hf hm ⟨fun w => c_isBelow h0 h1 hf hm ⟨fun w2 => ?_, fun w2 => ?_⟩, fun w => ?_⟩)
  · rw [if_neg (of_decide_eq_false w), if_neg (of_decide_eq_false w2)] at h; exact h
  · rw [if_neg (of_decide_eq_false w), if_pos (of_decide_eq_true w2)] at h; exact h
  · rw [if_pos (of_decide_eq_true w)] at h; exact h
