theorem c_copyFrom {X : ZS} {σ : ZM} {T : ZM → Prop} {a b : Int} (ha : z_l a = (9, 3)) (hb : z_l b = (9, 3)) (hab : a ≠ b) (hf : Fix σ) (hwa : WF σ a) (hwb : WF σ b)
    (h : ∀ σ', OnW a σ σ' → WF σ' a → wv σ' a = wv σ b → T σ') : ZC X (rX9_copyFrom zN) mX9_copyFrom [(2, a), (2, b)] zN σ (zQv T) := by
  obtain ⟨hne1, hne2⟩ := z_kne ha hb
  have a1 := hwa.1
  have a2 := hwa.2.1
  have b1 := hwb.1
  have b2 := hwb.2.1
  obtain ⟨m, hm⟩ : ∃ m : Int, m = max (σ a 1) (σ b 1) := ⟨_, rfl⟩
  have hm12 : m ≤ 12 := by omega
  have key : ∀ (k : Nat) (x : Int) (τ : ZM), 0 ≤ x → x + k = m → OnW a σ τ → (∀ i : Int, τ a i = σ a i) → (∀ i : Int, 0 ≤ i → i < x → τ (a + 1) i = σ (b + 1) i) → (∀ i : Int, x ≤ i → τ (a + 1) i = σ (a + 1) i) → Z X (rX9_copyFrom zN) mX9_copyFrom 14 [(2, a), (2, b), (0, m), (0, x)] [] zN τ (zQv T) := by
    intro k
    induction k with
    | zero =>
      intro x τ hx hk ho hs h0 hr
      have hb' : ∀ i, τ b i = σ b i := fun i => ho.fld ha hb (Ne.symm hab) i
      have e0 : z_up τ a 1 (τ b 1) b 2 = σ b 2 := by rw [z_up_far _ _ _ (Ne.symm hab)]; exact hb' 2
      have fin : T (z_up (z_up τ a 1 (τ b 1)) a 2 (z_up τ a 1 (τ b 1) b 2)) := by
        rw [e0, hb' 1]
        have e1 : ∀ i : Int, 0 ≤ i → i < 12 → z_up (z_up τ a 1 (σ b 1)) a 2 (σ b 2) (a + 1) i = σ (b + 1) i := by
          intro i g1 g2
          rw [z_up_far _ _ _ (by omega), z_up_far _ _ _ (by omega)]
          by_cases hi : i < x
          · exact h0 i g1 hi
          · rw [hr i (by omega), hwa.2.2.2.1 i (by omega) g2, hwb.2.2.2.1 i (by omega) g2]
        have e2 : z_up (z_up τ a 1 (σ b 1)) a 2 (σ b 2) a 1 = σ b 1 := by rw [z_up_ne _ (Or.inr (by decide)), z_up_same]
        have e3 : z_up (z_up τ a 1 (σ b 1)) a 2 (σ b 2) a 2 = σ b 2 := z_up_same _ _ _ _
        refine h _ ((ho.up1 1 (Or.inl rfl)).up1 2 (Or.inr rfl)) ?_ ?_
        · unfold WF
          rw [e2, e3]
          refine ⟨b1, b2, fun i g1 g2 => by rw [e1 i g1 g2]; exact hwb.2.2.1 i g1 g2, fun i g1 g2 => by rw [e1 i (by omega) g2]; exact hwb.2.2.2.1 i g1 g2, fun q => by rw [e1 _ (by omega) (by omega)]; exact hwb.2.2.2.2.1 q, hwb.2.2.2.2.2⟩
        · unfold wv wm
          rw [e3, dv_congr e1]
      refine bk_X9_copyFrom_14 ha hb ⟨by constructor <;> omega, by constructor <;> omega, fun _ => fin, fun q => absurd (by omega) q⟩
    | succ k ih =>
      intro x τ hx hk ho hs h0 hr
      refine bk_X9_copyFrom_14 ha hb ⟨by constructor <;> omega, by constructor <;> omega, fun q => absurd q (by omega), fun _ => ⟨fun q => absurd q (by omega), fun _ => ⟨ho.fix ha hf, hx, by omega, ?_⟩⟩⟩
      have e : τ (b + 1) x = σ (b + 1) x := by rw [ho.row ha hb (Ne.symm hab)]
      rw [e]
      refine ih (x + 1) _ (by omega) (by omega) ho.upA (fun i => by rw [z_up_far _ _ _ (by omega)]; exact hs i) (fun i hi hi2 => ?_) (fun i hi => ?_)
      · rw [z_up_row]
        by_cases hix : i = x
        · subst hix; exact fu_s _ _ _
        · rw [fu_n _ _ hix]; exact h0 i hi (by omega)
      · rw [z_up_row, fu_n _ _ (by omega)]; exact hr i (by omega)
  refine bk_X9_copyFrom ha hb ⟨hwa.s32, hwb.s32, ?_⟩
  rw [← hm]
  exact key m.toNat 0 σ (by omega) (by omega) OnW.rfl' (fun _ => rfl) (fun i hi hi2 => absurd hi2 (by omega)) (fun _ _ => rfl)
theorem c_compareSize {X : ZS} {σ : ZM} {T : Int → ZM → Prop} {a b : Int} (ha : z_l a = (9, 3)) (hb : z_l b = (9, 3)) (hf : Fix σ) (hwa : WF σ a) (hwb : WF σ b)
    (h : ∀ r : Int, r32 r → (0 < r ↔ wm σ b < wm σ a) → T r σ) : ZC X (rX9_compareSize zN) mX9_compareSize [(2, a), (2, b)] zN σ (zQi T) := by
  have key : ∀ (k : Nat), k ≤ 12 → (∀ i : Int, k ≤ i → i < 12 → σ (a + 1) i = σ (b + 1) i) → Z X (rX9_compareSize zN) mX9_compareSize 3 [(2, a), (2, b), (0, (k : Int) - 1)] [] zN σ (zQi T) := by
    intro k
    induction k with
    | zero =>
      intro _ he
      refine bk_X9_compareSize_3 ha hb ⟨by constructor <;> omega, fun _ => ?_, fun q => absurd (by omega) q⟩
      refine h 0 (by decide) ⟨fun q => absurd q (by decide), fun q => ?_⟩
      have : wm σ a = wm σ b := dv_congr (fun i g1 g2 => he i g1 g2)
      omega
    | succ k ih =>
      intro hk he
      have e0 : ((k + 1 : Nat) : Int) - 1 = k := by omega
      rw [e0]
      refine bk_X9_compareSize_3 ha hb ⟨by constructor <;> omega, fun q => absurd q (by omega), fun _ => ⟨hf, by omega, by omega, hwa.dr (by omega) (by omega), hwb.dr (by omega) (by omega), fun q => ?_, fun q => ⟨fun c => ?_, fun c => ?_⟩⟩⟩
      · have := ih (by omega) (fun i g1 g2 => by
          by_cases hi : i = k
          · subst hi; exact q
          · exact he i (by omega) g2)
        rw [show (k : Int) + -1 = (k : Int) - 1 by omega]
        exact this
      · refine h (-1) (by decide) ⟨fun q => absurd q (by decide), fun w => ?_⟩
        have : dv (σ (a + 1)) 12 < dv (σ (b + 1)) 12 := dv_lt (k := k) hwa.2.2.1 hwb.2.2.1 (by omega) (fun i g1 g2 => he i (by omega) g2) (by omega)
        unfold wm at w
        omega
      · refine h 1 (by decide) ⟨fun _ => ?_, fun _ => by decide⟩
        exact dv_lt (k := k) hwb.2.2.1 hwa.2.2.1 (by omega) (fun i g1 g2 => (he i (by omega) g2).symm) (by omega)
  exact bk_X9_compareSize ha hb (key 12 (by decide) (fun i g1 g2 => absurd g2 (by omega)))
theorem c_complement {X : ZS} {σ : ZM} {T : ZM → Prop} {a : Int} {len : Nat} (hl : z_l a = (9, 3)) (hf : Fix σ) (hd : dg (σ (a + 1)) 12) (hlen : len ≤ 12) (hpos : 0 < dv (σ (a + 1)) len)
    (h : ∀ σ', OnW a σ σ' → dg (σ' (a + 1)) 12 → (∀ i : Int, len ≤ i → σ' (a + 1) i = σ (a + 1) i) → dv (σ' (a + 1)) len = pw len - dv (σ (a + 1)) len → T σ') : ZC X (rX9_complement zN) mX9_complement [(2, a), (0, (len : Int))] zN σ (zQv T) := by
  have key : ∀ (k i : Nat) (y : Int) (τ : ZM), i + k = len → (y = 0 ∨ y = 1) → OnW a σ τ → dg (τ (a + 1)) 12 → (∀ j : Int, i ≤ j → τ (a + 1) j = σ (a + 1) j) → dv (τ (a + 1)) i = y * pw i - dv (σ (a + 1)) i → Z X (rX9_complement zN) mX9_complement 5 [(2, a), (0, (len : Int)), (1, y), (9, 0), (0, (i : Int)), (9, 0), (9, 0)] [] zN τ (zQv T) := by
    intro k
    induction k with
    | zero =>
      intro i y τ hi hy ho hdg hr he
      have hil : i = len := by omega
      subst hil
      refine bk_X9_complement_5 hl ⟨by constructor <;> omega, by constructor <;> omega, fun _ => ?_, fun q => absurd (by omega) q⟩
      refine h τ ho hdg hr ?_
      rcases hy with rfl | rfl
      · have := (dv_rng (hdg.mono hlen)).1
        omega
      · rw [he, Int.one_mul]
    | succ k ih =>
      intro i y τ hi hy ho hdg hr he
      have hdi := hd i (by omega) (by omega)
      rw [← hr i (by omega)] at hdi
      refine bk_X9_complement_5 hl ⟨by constructor <;> omega, by constructor <;> omega, fun q => absurd q (by omega), fun _ => ⟨ho.fix hl hf, by omega, by omega, by constructor <;> omega, by constructor <;> omega, fun q => ?_, fun q => ?_⟩⟩
      · have hy0 : y = 0 := by omega
        have hd0 : τ (a + 1) i = 0 := by omega
        have := ih (i + 1) 0 (z_up τ (a + 1) i (((-y) - (τ (a + 1) i)) + (0 * 1000000000))) (by omega) (Or.inl rfl) ho.upA (by rw [z_up_row]; exact dg_fu hdg (by omega) (by omega)) (fun j hj => by rw [z_up_row, fu_n _ _ (by omega)]; exact hr j (by omega)) ?_
        · exact this
        · rw [z_up_row, dv_s, dv_fu_out (Int.le_refl _), fu_s, dv_s, he, ← hr i (by omega), hy0, hd0]
          simp
      · have := ih (i + 1) 1 (z_up τ (a + 1) i (((-y) - (τ (a + 1) i)) + (1 * 1000000000))) (by omega) (Or.inr rfl) ho.upA (by rw [z_up_row]; exact dg_fu hdg (by omega) (by omega)) (fun j hj => by rw [z_up_row, fu_n _ _ (by omega)]; exact hr j (by omega)) ?_
        · exact this
        · rw [z_up_row, dv_s, dv_fu_out (Int.le_refl _), fu_s, dv_s, he, ← hr i (by omega), pw_s, Int.one_mul, Int.one_mul, Int.add_mul, Int.sub_mul, Int.neg_mul, Int.mul_comm (pw i)]
          omega
  exact bk_X9_complement hl (key len 0 0 σ (by omega) (Or.inl rfl) OnW.rfl' hd (fun _ _ => rfl) rfl)
