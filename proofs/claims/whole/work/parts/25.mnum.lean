/-! the model's numbers: sixteen parts each, in cell 212; the lower fifteen are digits, the top one is 0 or -1 -/
def mr (σ : ZM) (k : Int) : Int → Int := sh (σ 212) (16 * k)
def mv (σ : ZM) (k : Int) : Int := dv (mr σ k) 16
def MF (σ : ZM) (k : Int) : Prop := dg (mr σ k) 15 ∧ (mr σ k 15 = 0 ∨ mr σ k 15 = -1)
def OnK (k : Int) (σ σ' : ZM) : Prop := ∀ c i : Int, ¬ (c = 212 ∧ 16 * k ≤ i ∧ i < 16 * k + 16) → σ' c i = σ c i
theorem OnK.rfl' {k : Int} {σ : ZM} : OnK k σ σ := fun _ _ _ => rfl
theorem OnK.trans {k : Int} {σ σ1 σ2 : ZM} (h1 : OnK k σ σ1) (h2 : OnK k σ1 σ2) : OnK k σ σ2 := fun c i h => (h2 c i h).trans (h1 c i h)
theorem OnK.up {k i x : Int} {σ σ1 : ZM} (h : OnK k σ σ1) (h1 : 16 * k ≤ i) (h2 : i < 16 * k + 16) : OnK k σ (z_up σ1 212 i x) := fun c j g => by
  rw [z_up_ne]
  · exact h c j g
  · omega
theorem OnK.far {k c : Int} {σ σ1 : ZM} (h : OnK k σ σ1) (hc : c ≠ 212) : σ1 c = σ c := by
  funext i
  exact h c i (by omega)
theorem OnK.oth {k l : Int} {σ σ1 : ZM} (h : OnK k σ σ1) (hl : l ≠ k) {j : Int} (h0 : 0 ≤ j) (h1 : j < 16) : mr σ1 l j = mr σ l j := h 212 _ (by omega)
theorem OnK.val {k l : Int} {σ σ1 : ZM} (h : OnK k σ σ1) (hl : l ≠ k) : mv σ1 l = mv σ l := dv_congr (fun j h0 h1 => h.oth hl h0 h1)
theorem OnK.mf {k l : Int} {σ σ1 : ZM} (h : OnK k σ σ1) (hl : l ≠ k) (hm : MF σ l) : MF σ1 l := by
  refine ⟨fun j h0 h1 => ?_, ?_⟩
  · rw [h.oth hl h0 (by omega)]; exact hm.1 j h0 h1
  · rw [h.oth hl (by decide) (by decide)]; exact hm.2
theorem OnK.fix {k : Int} {σ σ' : ZM} (h : OnK k σ σ') (hf : Fix σ) : Fix σ' := by
  intro c i d hd
  rw [h c i]
  · exact hf c i d hd
  · rintro ⟨rfl, _⟩
    rw [la_212, z_off_arr (by decide)] at hd
    cases hd
theorem mr_up (σ : ZM) (k j x : Int) : mr (z_up σ 212 (16 * k + j) x) k = fu (mr σ k) j x := by
  unfold mr
  rw [z_up_row, sh_fu]
theorem mv_top (σ : ZM) (k : Int) : mv σ k = dv (mr σ k) 15 + mr σ k 15 * pw 15 := dv_s (mr σ k) 15
theorem MF.rng {σ : ZM} {k : Int} (h : MF σ k) : -pw 15 ≤ mv σ k ∧ mv σ k < pw 15 ∧ (mv σ k < 0 ↔ mr σ k 15 = -1) ∧ (0 ≤ mv σ k ↔ mr σ k 15 = 0) := by
  have r := dv_rng h.1
  have e := mv_top σ k
  rcases h.2 with w | w <;> rw [w] at e ⊢ <;> omega
theorem mf_of {σ : ZM} {k : Int} (hd : dg (mr σ k) 15) (h1 : -pw 15 ≤ mv σ k) (h2 : mv σ k < pw 15) : MF σ k := by
  refine ⟨hd, ?_⟩
  have r := dv_rng hd
  have e := mv_top σ k
  obtain ⟨t, ht⟩ : ∃ t : Int, t = mr σ k 15 := ⟨_, rfl⟩
  rw [← ht] at e ⊢
  have hp := pw_pos 15
  rcases Int.lt_or_le t (-1) with w | w
  · have : t * pw 15 ≤ -2 * pw 15 := Int.mul_le_mul_of_nonneg_right (by omega) (by omega)
    omega
  · rcases Int.lt_or_le 0 t with w2 | w2
    · have : 1 * pw 15 ≤ t * pw 15 := Int.mul_le_mul_of_nonneg_right (by omega) (by omega)
      omega
    · omega
theorem MF.inj {σ τ : ZM} {k l : Int} (h1 : MF σ k) (h2 : MF τ l) (he : mv σ k = mv τ l) : ∀ j : Int, 0 ≤ j → j < 16 → mr σ k j = mr τ l j := by
  have a := h1.rng
  have b := h2.rng
  have ht : mr σ k 15 = mr τ l 15 := by
    rcases h1.2 with w | w <;> rcases h2.2 with w2 | w2 <;> omega
  have hl : dv (mr σ k) 15 = dv (mr τ l) 15 := by
    have e1 := mv_top σ k
    have e2 := mv_top τ l
    rw [ht] at e1
    omega
  intro j j0 j1
  rcases Int.lt_or_le j 15 with w | w
  · exact dv_inj h1.1 h2.1 hl j j0 (by omega)
  · have : j = 15 := by omega
    subst this
    exact ht
theorem MF.r {σ : ZM} {k : Int} (h : MF σ k) {j : Int} (h0 : 0 ≤ j) (h1 : j < 16) : -1 ≤ mr σ k j ∧ mr σ k j < 1000000000 := by
  rcases Int.lt_or_le j 15 with w | w
  · have := h.1 j h0 (by omega); omega
  · have : j = 15 := by omega
    subst this
    rcases h.2 with w | w <;> rw [w] <;> decide
theorem MF.zero {σ : ZM} {k : Int} (h : MF σ k) : mv σ k = 0 ↔ ∀ j : Int, 0 ≤ j → j < 16 → mr σ k j = 0 := by
  constructor
  · intro w
    have h2 : mr σ k 15 = 0 := h.rng.2.2.2.mp (by omega)
    have e := mv_top σ k
    have hz : dv (mr σ k) 15 = 0 := by rw [h2] at e; omega
    intro j j0 j1
    rcases Int.lt_or_le j 15 with w | w
    · exact dv_inj h.1 (g := fun _ => 0) (fun i _ _ => ⟨Int.le_refl 0, show (0 : Int) < 1000000000 by decide⟩) (by rw [hz]; exact (dv_zero (m := 0) (Nat.zero_le _) (fun _ _ _ => rfl)).symm) j j0 (by omega)
    · have : j = 15 := by omega
      subst this; exact h2
  · intro w
    exact dv_zero (m := 0) (n := 16) (by decide) (fun j j0 j1 => w j j0 j1)
theorem c_carry {X : ZS} {σ : ZM} {T : ZM → Prop} {a : Int} (h0 : 0 ≤ a) (h1 : a < 132) (hf : Fix σ) (hb : ∀ j : Int, 0 ≤ j → j < 15 → -4000000000000000000 ≤ mr σ a j ∧ mr σ a j ≤ 4000000000000000000) (hlo : -pw 15 ≤ mv σ a) (hhi : mv σ a < pw 15)
    (h : ∀ σ', OnK a σ σ' → MF σ' a → mv σ' a = mv σ a → T σ') : ZC X (rX12_carry zN) mX12_carry [(2, 211), (0, a)] zN σ (zQv T) := by
  have key : ∀ (l i : Nat) (τ : ZM), i + l = 15 → OnK a σ τ → dg (mr τ a) i → (∀ j : Int, i < j → mr τ a j = mr σ a j) → dv (mr τ a) (i + 1) = dv (mr σ a) (i + 1) → (-4100000000000000000 ≤ mr τ a i ∧ mr τ a i ≤ 4100000000000000000 ∨ i = 15) → Z X (rX12_carry zN) mX12_carry 2 [(2, 211), (0, a), (0, (i : Int)), (9, 0), (9, 0)] [] zN τ (zQv T) := by
    intro l
    induction l with
    | zero =>
      intro i τ hi ho hd hr he _
      have : i = 15 := by omega
      subst this
      refine bk_X12_carry_2 ⟨by decide, fun _ => ?_, fun w => absurd (by decide) w⟩
      have hv : mv τ a = mv σ a := he
      exact h τ ho (mf_of hd (by rw [hv]; exact hlo) (by rw [hv]; exact hhi)) hv
    | succ l ih =>
      intro i τ hi ho hd hr he hbi
      have hbi' : -4100000000000000000 ≤ mr τ a i ∧ mr τ a i ≤ 4100000000000000000 := by omega
      obtain ⟨v, hv⟩ : ∃ v : Int, v = mr τ a i := ⟨_, rfl⟩
      have hvm : τ 212 (16 * a + i) = v := hv.symm
      rw [← hv] at hbi'
      refine bk_X12_carry_2 ⟨by constructor <;> omega, fun w => absurd w (by omega), fun _ => ⟨ho.fix hf, by omega, by omega, by rw [hvm]; constructor <;> omega, by omega, by omega, ?_⟩⟩
      rw [hvm, Int.add_assoc, z_up_ne _ (Or.inr (by omega))]
      rw [show τ 212 (16 * a + ((i : Int) + 1)) = mr τ a ((i : Int) + 1) from rfl, hr _ (by omega)]
      obtain ⟨υ, hυ⟩ : ∃ υ : ZM, υ = z_up (z_up τ 212 (16 * a + i) (v % 1000000000)) 212 (16 * a + ((i : Int) + 1)) (mr σ a ((i : Int) + 1) + v / 1000000000) := ⟨_, rfl⟩
      rw [← hυ]
      have er : mr υ a = fu (fu (mr τ a) i (v % 1000000000)) ((i : Int) + 1) (mr σ a ((i : Int) + 1) + v / 1000000000) := by rw [hυ, mr_up, mr_up]
      have m0 := Int.emod_nonneg v (show (1000000000 : Int) ≠ 0 by decide)
      have m1 := Int.emod_lt_of_pos v (show (0 : Int) < 1000000000 by decide)
      have em := Int.mul_ediv_add_emod v 1000000000
      have := ih (i + 1) υ (by omega) (by rw [hυ]; exact (ho.up (by omega) (by omega)).up (by omega) (by omega)) ?_ ?_ ?_ ?_
      · exact this
      · intro j j0 j1
        rw [er, fu_n _ _ (by omega)]
        by_cases hj : j = i
        · rw [hj, fu_s]; exact ⟨m0, m1⟩
        · rw [fu_n _ _ hj]; exact hd j j0 (by omega)
      · intro j hj
        rw [er, fu_n _ _ (by omega), fu_n _ _ (by omega)]
        exact hr j (by omega)
      · rw [er, dv_s, dv_s (mr σ a) (i + 1), ← he, dv_fu_out (by omega), dv_fu (by omega), ← hv]
        rw [show (((i + 1 : Nat) : Int)) = (i : Int) + 1 by omega, fu_s, pw_s]
        have : (v % 1000000000 - v) * pw i + v / 1000000000 * (pw i * 1000000000) = (1000000000 * (v / 1000000000) + v % 1000000000 - v) * pw i := by grind
        rw [em, Int.sub_self, Int.zero_mul] at this
        rw [Int.add_mul]
        omega
      · rcases Nat.lt_or_ge (i + 1) 15 with w | w
        · left
          rw [er, show (((i + 1 : Nat) : Int)) = (i : Int) + 1 by omega, fu_s]
          have := hb ((i : Int) + 1) (by omega) (by omega)
          omega
        · right; omega
  refine bk_X12_carry (key 15 0 σ (by decide) OnK.rfl' (fun j j0 j1 => absurd j1 (by omega)) (fun _ _ => rfl) rfl (Or.inl ?_))
  have := hb 0 (by decide) (by decide)
  rw [show ((0 : Nat) : Int) = 0 from rfl]
  omega
