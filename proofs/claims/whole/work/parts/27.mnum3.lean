theorem NM.congr {σ : ZM} {v w : Int → Int} (h : NM σ v) (he : ∀ k : Int, 0 ≤ k → k < 132 → v k = w k) : NM σ w := ⟨h.1, fun k k0 k1 => ⟨(h.2 k k0 k1).1, (h.2 k k0 k1).2.trans (he k k0 k1)⟩⟩
/-- a change of a row of longs other than the numbers leaves them -/
theorem NM.row {σ σ' : ZM} {v : Int → Int} (h : NM σ v) (hf : Fix σ') (he : σ' 212 = σ 212) : NM σ' v := by
  refine ⟨hf, fun k k0 k1 => ?_⟩
  have e : mr σ' k = mr σ k := by unfold mr; rw [he]
  have := h.2 k k0 k1
  unfold MF mv at this ⊢
  rw [e]; exact this
/-- only the cells of the predicate have changed -/
def Oc (P : Int → Prop) (σ σ' : ZM) : Prop := ∀ c : Int, ¬ P c → σ' c = σ c
theorem fix_row {σ : ZM} {c i x : Int} {m : Nat} (hl : z_l c = (21, m)) (hf : Fix σ) : Fix (z_up σ c i x) := hf.upA hl (by decide)
theorem c_bare {X : ZS} {σ : ZM} {T : ZM → Prop} {v : Int → Int} {a p : Int} (h0 : 0 ≤ a) (h1 : a < 132) (hp : z_l p = (21, 16)) (hp2 : p ≠ 212) (hN : NM σ v) (hlo : -pw 15 < v a)
    (h : ∀ σ', (∀ c : Int, c ≠ 212 → c ≠ p → σ' c = σ c) → NM σ' v → dg (σ' p) 16 → dv (σ' p) 16 = (v a).natAbs → T σ') : ZC X (rX12_bare zN) mX12_bare [(2, 211), (0, a), (2, p)] zN σ (zQv T) := by
  have hm := hN.2 a h0 h1
  have key : ∀ (b : Int) (w : Int → Int), (∀ σ', (∀ c : Int, c ≠ 212 → c ≠ p → σ' c = σ c) → NM σ' w → dg (σ' p) 16 → dv (σ' p) 16 = (v a).natAbs → r32 b ∧ ((b = 0) → T σ') ∧ ((¬ b = 0) → ZC X (rX12_turn zN) mX12_turn [(2, 211), (0, a)] zN σ' (zQv (fun σ4 => T σ4)))) → w a = (v a).natAbs →
      ∀ (l i : Nat) (τ : ZM), i + l = 16 → (∀ c : Int, c ≠ 212 → c ≠ p → τ c = σ c) → NM τ w → (∀ j : Int, 0 ≤ j → j < i → τ p j = mr τ a j) → Z X (rX12_bare zN) mX12_bare 18 [(2, 211), (0, a), (2, p), (0, b), (0, (i : Int))] [] zN τ (zQv T) := by
    intro b w hend hw l
    induction l with
    | zero =>
      intro i τ hi ho hM hr
      have : i = 16 := by omega
      subst this
      have m' := hM.2 a h0 h1
      refine bk_X12_bare_18 hp ⟨by decide, fun _ => hend τ ho hM (fun j j0 j1 => ?_) ?_, fun w => absurd (by decide) w⟩
      · rw [hr j j0 j1]
        have t := m'.1.rng.2.2.2.mp (by rw [m'.2, hw]; omega)
        have := m'.1.r j0 j1
        rcases Int.lt_or_le j 15 with w | w
        · exact m'.1.1 j j0 (by omega)
        · have : j = 15 := by omega
          subst this; rw [t]; decide
      · rw [dv_congr (g := mr τ a) (fun j j0 j1 => hr j j0 j1)]
        exact m'.2.trans hw
    | succ l ih =>
      intro i τ hi ho hM hr
      refine bk_X12_bare_18 hp ⟨by constructor <;> omega, fun w => absurd w (by omega), fun _ => ⟨hM.1, by omega, by omega, by omega, by omega, ?_⟩⟩
      have e212 : z_up τ p i (τ 212 (16 * a + i)) 212 = τ 212 := z_up_far _ _ _ (Ne.symm hp2)
      refine ih (i + 1) _ (by omega) (fun c c1 c2 => ?_) (hM.row (fix_row hp hM.1) e212) (fun j j0 j1 => ?_)
      · rw [z_up_far _ _ _ c2]; exact ho c c1 c2
      · unfold mr
        rw [e212, z_up_row]
        by_cases hj : j = i
        · rw [hj, fu_s]; rfl
        · rw [fu_n _ _ hj]; exact hr j j0 (by omega)
  refine bk_X12_bare hp (c_isBelow h0 h1 hN.1 hm.1 ⟨fun w => ?_, fun w => ?_⟩)
  · have hge := of_decide_eq_false w
    rw [hm.2] at hge
    have e : zb (decide (mv σ a < 0)) = 0 := by rw [w]; rfl
    rw [e]
    exact key 0 v (fun σ' o' m' d' v' => ⟨by decide, fun _ => h σ' o' m' d' v', fun q => absurd rfl q⟩) (by omega) 16 0 σ (by decide) (fun _ _ _ => rfl) hN (fun j j0 j1 => absurd j1 (by omega))
  · have hlt := of_decide_eq_true w
    rw [hm.2] at hlt
    have e : zb (decide (mv σ a < 0)) = 1 := by rw [w]; rfl
    refine c_turnK h0 h1 hN.1 hm.1 (by rw [hm.2]; exact hlo) (fun σ4 o4 m4 v4 => ?_)
    rw [e]
    have N4 : NM σ4 (fu v a (-v a)) := hN.on o4 m4 (by rw [v4, hm.2])
    have ea : fu v a (-v a) a = -v a := fu_s _ _ _
    refine key 1 (fu v a (-v a)) (fun σ' o' m' d' v' => ⟨by decide, fun q => absurd q (by decide), fun _ => ?_⟩) (by rw [ea]; omega) 16 0 σ4 (by decide) (fun c c1 c2 => o4.far c1) N4 (fun j j0 j1 => absurd j1 (by omega))
    have ma := m'.2 a h0 h1
    have hr := hN.rng h0 h1
    refine c_turnK h0 h1 m'.1 ma.1 (by rw [ma.2, ea]; omega) (fun σ9 o9 m9 v9 => h σ9 (fun c c1 c2 => by rw [o9.far c1]; exact o' c c1 c2) ?_ ?_ ?_)
    · refine (m'.on o9 m9 (by rw [v9, ma.2, ea])).congr (fun k k0 k1 => ?_)
      by_cases hk : k = a
      · subst hk; rw [fu_s]; omega
      · rw [fu_n _ _ hk, fu_n _ _ hk]
    · rw [o9.far hp2]; exact d'
    · rw [o9.far hp2]; exact v'
theorem c_length {X : ZS} {σ : ZM} {T : Int → ZM → Prop} {p : Int} (hp : z_l p = (21, 16)) (hd : dg (σ p) 16)
    (h : ∀ n : Nat, n ≤ 16 → (∀ j : Int, n ≤ j → j < 16 → σ p j = 0) → (0 < n → σ p ((n : Int) - 1) ≠ 0) → T n σ) : ZC X (rX12_length zN) mX12_length [(2, p)] zN σ (zQi T) := by
  have key : ∀ n : Nat, n ≤ 16 → (∀ j : Int, n ≤ j → j < 16 → σ p j = 0) → Z X (rX12_length zN) mX12_length 3 [(2, p), (0, (n : Int))] [] zN σ (zQi T) := by
    intro n
    induction n with
    | zero =>
      intro hn hz
      exact bk_X12_length_3 hp ⟨by decide, fun _ => h 0 hn hz (fun q => absurd q (by decide)), fun w => absurd (by decide) w⟩
    | succ n ih =>
      intro hn hz
      have e : ((n + 1 : Nat) : Int) - 1 = n := by omega
      have r := hd n (by omega) (by omega)
      refine bk_X12_length_3 hp ⟨by constructor <;> omega, fun w => absurd w (by omega), fun _ => ⟨by omega, by omega, by rw [e]; constructor <;> omega, fun w => h (n + 1) hn hz (fun _ => w), fun w => ?_⟩⟩
      rw [show ((n + 1 : Nat) : Int) + -1 = n by omega]
      refine ih (by omega) (fun j j0 j1 => ?_)
      by_cases hj : j = n
      · rw [hj, ← e]; exact w
      · exact hz j (by omega) j1
  exact bk_X12_length hp (key 16 (Nat.le_refl _) (fun j j0 j1 => absurd j1 (by omega)))
