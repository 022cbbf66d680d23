def sh (f : Int → Int) (k : Int) : Int → Int := fun i => f (k + i)
theorem dv_split (f : Int → Int) (m : Nat) : ∀ n : Nat, dv f (m + n) = dv f m + pw m * dv (sh f m) n
  | 0 => by show dv f m = dv f m + pw m * 0; omega
  | n + 1 => by
    show dv f (m + n) + f ((m + n : Nat) : Int) * pw (m + n) = dv f m + pw m * (dv (sh f m) n + f ((m : Int) + (n : Int)) * pw n)
    rw [dv_split f m n, pw_add, show ((m + n : Nat) : Int) = (m : Int) + (n : Int) by omega]
    grind
theorem sh_fu (f : Int → Int) (k i x : Int) : sh (fu f (k + i) x) k = fu (sh f k) i x := by
  funext j
  simp only [sh, fu]
  by_cases h : j = i
  · subst h; simp
  · rw [if_neg h, if_neg (by omega)]
/-- at most the divider at d, its rows, and the Whole at q have changed -/
def OnD (d q : Int) (σ σ' : ZM) : Prop := ∀ c i : Int, ¬ (c = d ∧ (i = 2 ∨ i = 3)) → c ≠ d + 1 → c ≠ d + 2 → ¬ (c = q ∧ (i = 1 ∨ i = 2)) → c ≠ q + 1 → σ' c i = σ c i
/-- at most the row r has changed -/
def OnR (r : Int) (σ σ' : ZM) : Prop := ∀ c i : Int, c ≠ r → σ' c i = σ c i
theorem OnR.rfl' {r : Int} {σ : ZM} : OnR r σ σ := fun _ _ _ => rfl
theorem OnR.up {r i x : Int} {σ τ : ZM} (h : OnR r σ τ) : OnR r σ (z_up τ r i x) := fun c j g => by
  rw [z_up_far _ _ _ g]; exact h c j g
theorem OnR.fix {r : Int} {σ τ : ZM} {m : Nat} (h : OnR r σ τ) (hl : z_l r = (20, m)) (hf : Fix σ) : Fix τ := by
  intro c k d hd
  rw [h c k]
  · exact hf c k d hd
  · rintro rfl
    rw [hl, z_off_arr (Nat.le_refl 20)] at hd
    cases hd
theorem OnR.row {r c : Int} {σ τ : ZM} (h : OnR r σ τ) (hc : c ≠ r) : τ c = σ c := by funext i; exact h c i hc
theorem c_copyScaled {X : ZS} {σ : ZM} {T : ZM → Prop} {d a r : Int} {k : Nat} (hd : z_l d = (1, 4)) (ha : z_l a = (9, 3)) (hr : z_l r = (20, 13)) (hra : r ≠ a + 1) (hf : Fix σ) (hw : WF σ a) (hs1 : 1 ≤ σ d 3) (hs2 : σ d 3 ≤ 1000000000) (hk : k ≤ 13) (hsz : σ a 1 ≤ k) (hlt : wm σ a * σ d 3 < pw k)
    (h : ∀ σ', OnR r σ σ' → dg (σ' r) k → dv (σ' r) k = wm σ a * σ d 3 → T σ') : ZC X (rX1_copyScaled zN) mX1_copyScaled [(2, d), (2, a), (2, r), (0, (k : Int))] zN σ (zQv T) := by
  obtain ⟨s, hs⟩ : ∃ s : Int, s = σ d 3 := ⟨_, rfl⟩
  rw [← hs] at hs1 hs2 hlt h
  have a1 := hw.1
  have a2 := hw.2.1
  have nda : r ≠ d := fun q => by subst q; rw [hr] at hd; cases hd
  have naa : r ≠ a := fun q => by subst q; rw [hr] at ha; cases ha
  obtain ⟨A, hA⟩ : ∃ A : Int → Int, A = fun i => if i < σ a 1 then σ (a + 1) i else 0 := ⟨_, rfl⟩
  have hAr : ∀ i : Int, 0 ≤ i → 0 ≤ A i ∧ A i < 1000000000 := fun i hi => by
    rw [hA]
    dsimp only
    split
    · exact hw.2.2.1 i hi (by omega)
    · decide
  obtain ⟨sz, hsz'⟩ : ∃ z : Nat, (z : Int) = σ a 1 := ⟨(σ a 1).toNat, by omega⟩
  have hAk : dv A k = wm σ a := by
    rw [dv_zero (m := sz) (n := k) (by omega) (fun i g1 g2 => by rw [hA]; exact if_neg (by omega))]
    unfold wm
    rw [hw.dvz (m := sz) (by omega) (by omega)]
    exact dv_congr (fun i g1 g2 => by rw [hA]; exact if_pos (by omega))
  have key : ∀ (l i : Nat) (c : Int) (τ : ZM), i + l = k → 0 ≤ c → c ≤ s → OnR r σ τ → dg (τ r) i → dv (τ r) i + c * pw i = dv A i * s →
      Z X (rX1_copyScaled zN) mX1_copyScaled 6 [(2, d), (2, a), (2, r), (0, (k : Int)), (1, c), (9, 0), (0, (i : Int)), (9, 0), (9, 0)] [] zN τ (zQv T) := by
    intro l
    induction l with
    | zero =>
      intro i c τ hi hc0 hc1 ho hdg he
      have hik : i = k := by omega
      subst hik
      have fin : T τ := by
        refine h τ ho hdg ?_
        rw [hAk] at he
        have rd := dv_rng hdg
        have hp := pw_pos i
        have hc : c = 0 := by
          apply Classical.byContradiction
          intro w
          have := Int.mul_le_mul_of_nonneg_right (show 1 ≤ c by omega) (Int.le_of_lt hp)
          omega
        rw [hc] at he
        omega
      exact bk_X1_copyScaled_6 hd ha hr ⟨by constructor <;> omega, by constructor <;> omega, fun _ => fin, fun q => absurd (Int.le_refl _) q⟩
    | succ l ih =>
      intro i c τ hi hc0 hc1 ho hdg he
      have eS : τ d 3 = s := by rw [ho d 3 (Ne.symm nda), hs]
      have e1 : τ a 1 = σ a 1 := ho a 1 (Ne.symm naa)
      have rA := hAr i (by omega)
      have p0 : 0 ≤ A i * s := Int.mul_nonneg rA.1 (by omega)
      have p1 : A i * s ≤ 999999999 * s := Int.mul_le_mul_of_nonneg_right (by omega) (by omega)
      obtain ⟨v, hv⟩ : ∃ v : Int, v = c + A i * s := ⟨_, rfl⟩
      have step : Z X (rX1_copyScaled zN) mX1_copyScaled 6 [(2, d), (2, a), (2, r), (0, (k : Int)), (1, v / 1000000000), (9, 0), (0, ((i + 1 : Nat) : Int)), (9, 0), (9, 0)] [] zN (z_up τ r i (v % 1000000000)) (zQv T) := by
        refine ih (i + 1) (v / 1000000000) _ (by omega) (by omega) (by omega) ho.up ?_ ?_
        · rw [z_up_row]
          intro j g1 g2
          by_cases hj : j = i
          · subst hj; rw [fu_s]; omega
          · rw [fu_n _ _ hj]; exact hdg j g1 (by omega)
        · rw [z_up_row, dv_s, dv_fu_out (Int.le_refl _), fu_s, dv_s, pw_s]
          have e2 : v % 1000000000 = v - v / 1000000000 * 1000000000 := by omega
          rw [e2, hv]
          grind
      have tdv : ∀ w : Int, 0 ≤ w → w = v → Int.tdiv w 1000000000 = v / 1000000000 ∧ w - Int.tdiv w 1000000000 * 1000000000 = v % 1000000000 := fun w h0 h1 => by
        subst h1
        rw [Int.tdiv_eq_ediv_of_nonneg h0]
        omega
      refine bk_X1_copyScaled_6 hd ha hr ⟨by constructor <;> omega, by constructor <;> omega, fun q => absurd q (by omega), fun _ => ⟨fun q => absurd q (by omega), fun _ => ⟨by rw [e1]; exact hw.s32, fun q => ?_, fun q => ?_⟩⟩⟩
      · rw [e1] at q
        have hAi : A i = 0 := by rw [hA]; exact if_neg (by omega)
        rw [hAi, Int.zero_mul] at hv
        have t := tdv (c + 0) (by omega) (by omega)
        refine ⟨by constructor <;> omega, by omega, by omega, ?_⟩
        rw [t.2, t.1]
        exact step
      · rw [e1] at q
        have hAi : A i = σ (a + 1) i := by rw [hA]; exact if_pos (by omega)
        have eA : τ (a + 1) i = σ (a + 1) i := ho _ _ (Ne.symm hra)
        have t := tdv (c + σ (a + 1) i * s) (by rw [← hAi]; omega) (by rw [← hAi]; omega)
        refine ⟨ho.fix hr hf, by omega, by omega, by rw [eA, ← hAi]; constructor <;> omega, by rw [eA, eS, ← hAi]; constructor <;> omega, by omega, ?_⟩
        rw [eA, eS, t.2, t.1]
        exact step
  refine bk_X1_copyScaled hd ha hr (key k 0 0 σ (by omega) (by decide) (by omega) OnR.rfl' (fun i g1 g2 => absurd g2 (by omega)) ?_)
  show (0 : Int) + 0 * _ = 0 * _
  rw [Int.zero_mul, Int.zero_mul]; rfl
theorem c_takeAway {X : ZS} {σ : ZM} {T : Bool → ZM → Prop} {d t : Int} {at' len : Nat} (hd : z_l d = (1, 4)) (hf : Fix σ) (hln : σ d 2 = len) (hal : at' + len ≤ 12) (hr : dg (σ (d + 1)) (at' + len + 1)) (hb : dg (σ (d + 2)) (len + 1)) (ht0 : 0 ≤ t) (ht1 : t ≤ 1000000000)
    (hlo : -pw (len + 1) ≤ dv (sh (σ (d + 1)) at') (len + 1) - t * dv (σ (d + 2)) (len + 1))
    (h : ∀ (b : Bool) σ', OnR (d + 1) σ σ' → dg (σ' (d + 1)) (at' + len + 1) → (∀ j : Int, j < at' ∨ (at' : Int) + len < j → σ' (d + 1) j = σ (d + 1) j) → (b = true ↔ dv (sh (σ (d + 1)) at') (len + 1) - t * dv (σ (d + 2)) (len + 1) < 0) → dv (sh (σ' (d + 1)) at') (len + 1) = dv (sh (σ (d + 1)) at') (len + 1) - t * dv (σ (d + 2)) (len + 1) + (if b = true then pw (len + 1) else 0) → T b σ') :
    ZC X (rX1_takeAway zN) mX1_takeAway [(2, d), (0, (at' : Int)), (1, t)] zN σ (zQz T) := by
  have hl1 := zo_1_0 hd
  have n1 : d ≠ d + 1 := by omega
  have key : ∀ (l i : Nat) (c : Int) (τ : ZM), i + l = len + 1 → -1000000010 ≤ c → c ≤ 0 → OnR (d + 1) σ τ → dg (τ (d + 1)) (at' + len + 1) → (∀ j : Int, j < at' → τ (d + 1) j = σ (d + 1) j) → (∀ j : Int, (at' : Int) + i ≤ j → τ (d + 1) j = σ (d + 1) j) → dv (sh (τ (d + 1)) at') i + c * pw i = dv (sh (σ (d + 1)) at') i - t * dv (σ (d + 2)) i →
      Z X (rX1_takeAway zN) mX1_takeAway 6 [(2, d), (0, (at' : Int)), (1, t), (9, 0), (1, c), (9, 0), (0, (i : Int)), (9, 0), (9, 0), (9, 0), (9, 0)] [] zN τ (zQz T) := by
    intro l
    induction l with
    | zero =>
      intro i c τ hi hc0 hc1 ho hdg hlow hr2 he
      have hil : i = len + 1 := by omega
      subst hil
      have eL : τ d 2 = len := by rw [ho d 2 n1]; exact hln
      have rd : 0 ≤ dv (sh (τ (d + 1)) at') (len + 1) ∧ dv (sh (τ (d + 1)) at') (len + 1) < pw (len + 1) := dv_rng (fun j g1 g2 => hdg _ (by omega) (by omega))
      have hp := pw_pos (len + 1)
      have hc2 : c = 0 ∨ c = -1 := by
        apply Classical.byContradiction
        intro w
        have := Int.mul_le_mul_of_nonneg_right (show c ≤ -2 by omega) (Int.le_of_lt hp)
        omega
      refine bk_X1_takeAway_6 hd ⟨by constructor <;> omega, by rw [eL]; constructor <;> omega, fun _ => ⟨by constructor <;> omega, fun q => ?_, fun q => ?_⟩, fun q => absurd (by rw [eL]; omega) q⟩
      · have hc : c = 0 := by omega
        rw [hc] at he
        exact h false τ ho hdg (fun j hj => hj.elim (hlow j) (fun w => hr2 j (by omega))) ⟨fun w => absurd w (by decide), fun w => by omega⟩ (by simp; omega)
      · have hc : c = -1 := by omega
        rw [hc] at he
        exact h true τ ho hdg (fun j hj => hj.elim (hlow j) (fun w => hr2 j (by omega))) ⟨fun w => by omega, fun w => rfl⟩ (by simp; omega)
    | succ l ih =>
      intro i c τ hi hc0 hc1 ho hdg hlow hr2 he
      have eL : τ d 2 = len := by rw [ho d 2 n1]; exact hln
      have eR : τ (d + 1) ((at' : Int) + i) = σ (d + 1) ((at' : Int) + i) := hr2 _ (Int.le_refl _)
      have eB : τ (d + 2) i = σ (d + 2) i := ho _ _ (by omega)
      have rR := hr ((at' : Int) + i) (by omega) (by omega)
      have rB := hb i (by omega) (by omega)
      have p0 : 0 ≤ t * σ (d + 2) i := Int.mul_nonneg ht0 rB.1
      have p1 : t * σ (d + 2) i ≤ 1000000000 * 999999999 := Int.mul_le_mul ht1 (by omega) rB.1 (by decide)
      obtain ⟨v, hv⟩ : ∃ v : Int, v = σ (d + 1) ((at' : Int) + i) + c - t * σ (d + 2) i := ⟨_, rfl⟩
      have hvr : r64 v := by constructor <;> omega
      have step : Z X (rX1_takeAway zN) mX1_takeAway 6 [(2, d), (0, (at' : Int)), (1, t), (9, 0), (1, v / 1000000000), (9, 0), (0, ((i + 1 : Nat) : Int)), (9, 0), (9, 0), (9, 0), (9, 0)] [] zN (z_up τ (d + 1) ((at' : Int) + i) (v % 1000000000)) (zQz T) := by
        refine ih (i + 1) (v / 1000000000) _ (by omega) (by omega) (by omega) ho.up (by rw [z_up_row]; exact dg_fu hdg (by omega) (by omega)) (fun j g1 => by rw [z_up_row, fu_n _ _ (by omega)]; exact hlow j g1) (fun j g1 => by rw [z_up_row, fu_n _ _ (by omega)]; exact hr2 j (by omega)) ?_
        rw [z_up_row, sh_fu, dv_s, dv_fu_out (Int.le_refl _), fu_s, dv_s, dv_s, pw_s]
        have e2 : v % 1000000000 = v - v / 1000000000 * 1000000000 := by omega
        have e3 : sh (σ (d + 1)) at' i = σ (d + 1) ((at' : Int) + i) := rfl
        rw [e2, e3]
        have e4 : v * pw i = (σ (d + 1) ((at' : Int) + i) + c - t * σ (d + 2) i) * pw i := by rw [hv]
        grind
      have eV : τ (d + 1) ((at' : Int) + i) + c - t * τ (d + 2) i = v := by rw [eR, eB, hv]
      refine bk_X1_takeAway_6 hd ⟨by constructor <;> omega, by rw [eL]; constructor <;> omega, fun q => absurd q (by rw [eL]; omega), fun _ => ⟨ho.fix hl1 hf, by omega, by omega, by rw [eR]; constructor <;> omega, by omega, by omega, by rw [eB]; constructor <;> omega, ?_⟩⟩
      rw [eV]
      refine ⟨hvr, fl_r v hvr, fun q => ?_, fun q => ?_⟩
      · rw [(fl_a q).2, (fl_a q).1]
        exact step
      · rw [(fl_b q).2, (fl_b q).1]
        exact step
  refine bk_X1_takeAway hd (key (len + 1) 0 0 σ (by omega) (by decide) (by decide) OnR.rfl' hr (fun _ _ => rfl) (fun _ _ => rfl) ?_)
  show (0 : Int) + 0 * _ = 0 - _ * 0
  rw [Int.zero_mul, Int.mul_zero]; rfl
theorem c_giveBack {X : ZS} {σ : ZM} {T : ZM → Prop} {d : Int} {at' len : Nat} (hd : z_l d = (1, 4)) (hf : Fix σ) (hln : σ d 2 = len) (hal : at' + len ≤ 12) (hr : dg (σ (d + 1)) (at' + len + 1)) (hb : dg (σ (d + 2)) (len + 1))
    (h : ∀ (c : Int) σ', 0 ≤ c → OnR (d + 1) σ σ' → dg (σ' (d + 1)) (at' + len + 1) → (∀ j : Int, j < at' ∨ (at' : Int) + len < j → σ' (d + 1) j = σ (d + 1) j) → dv (sh (σ' (d + 1)) at') (len + 1) + c * pw (len + 1) = dv (sh (σ (d + 1)) at') (len + 1) + dv (σ (d + 2)) (len + 1) → T σ') :
    ZC X (rX1_giveBack zN) mX1_giveBack [(2, d), (0, (at' : Int))] zN σ (zQv T) := by
  have hl1 := zo_1_0 hd
  have n1 : d ≠ d + 1 := by omega
  have key : ∀ (l i : Nat) (c : Int) (τ : ZM), i + l = len + 1 → 0 ≤ c → c ≤ 1 → OnR (d + 1) σ τ → dg (τ (d + 1)) (at' + len + 1) → (∀ j : Int, j < at' → τ (d + 1) j = σ (d + 1) j) → (∀ j : Int, (at' : Int) + i ≤ j → τ (d + 1) j = σ (d + 1) j) → dv (sh (τ (d + 1)) at') i + c * pw i = dv (sh (σ (d + 1)) at') i + dv (σ (d + 2)) i →
      Z X (rX1_giveBack zN) mX1_giveBack 5 [(2, d), (0, (at' : Int)), (1, c), (9, 0), (0, (i : Int)), (9, 0), (9, 0)] [] zN τ (zQv T) := by
    intro l
    induction l with
    | zero =>
      intro i c τ hi hc0 hc1 ho hdg hlow hr2 he
      have hil : i = len + 1 := by omega
      subst hil
      have eL : τ d 2 = len := by rw [ho d 2 n1]; exact hln
      exact bk_X1_giveBack_5 hd ⟨by constructor <;> omega, by rw [eL]; constructor <;> omega, fun _ => h c τ hc0 ho hdg (fun j hj => hj.elim (hlow j) (fun w => hr2 j (by omega))) he, fun q => absurd (by rw [eL]; omega) q⟩
    | succ l ih =>
      intro i c τ hi hc0 hc1 ho hdg hlow hr2 he
      have eL : τ d 2 = len := by rw [ho d 2 n1]; exact hln
      have eR : τ (d + 1) ((at' : Int) + i) = σ (d + 1) ((at' : Int) + i) := hr2 _ (Int.le_refl _)
      have eB : τ (d + 2) i = σ (d + 2) i := ho _ _ (by omega)
      have rR := hr ((at' : Int) + i) (by omega) (by omega)
      have rB := hb i (by omega) (by omega)
      obtain ⟨v, hv⟩ : ∃ v : Int, v = σ (d + 1) ((at' : Int) + i) + c + σ (d + 2) i := ⟨_, rfl⟩
      have eV : τ (d + 1) ((at' : Int) + i) + c + τ (d + 2) i = v := by rw [eR, eB, hv]
      refine bk_X1_giveBack_5 hd ⟨by constructor <;> omega, by rw [eL]; constructor <;> omega, fun q => absurd q (by rw [eL]; omega), fun _ => ⟨ho.fix hl1 hf, by omega, by omega, by rw [eR]; constructor <;> omega, by omega, by omega, by rw [eB]; constructor <;> omega, ?_⟩⟩
      rw [eV]
      refine ⟨by constructor <;> omega, ?_⟩
      rw [Int.tdiv_eq_ediv_of_nonneg (by omega), show v - v / 1000000000 * 1000000000 = v % 1000000000 by omega]
      have step := ih (i + 1) (v / 1000000000) (z_up τ (d + 1) ((at' : Int) + i) (v % 1000000000)) (by omega) (by omega) (by omega) ho.up (by rw [z_up_row]; exact dg_fu hdg (by omega) (by omega)) (fun j g1 => by rw [z_up_row, fu_n _ _ (by omega)]; exact hlow j g1) (fun j g1 => by rw [z_up_row, fu_n _ _ (by omega)]; exact hr2 j (by omega)) ?_
      · exact step
      · rw [z_up_row, sh_fu, dv_s, dv_fu_out (Int.le_refl _), fu_s, dv_s, dv_s, pw_s]
        have e2 : v % 1000000000 = v - v / 1000000000 * 1000000000 := by omega
        have e3 : sh (σ (d + 1)) at' i = σ (d + 1) ((at' : Int) + i) := rfl
        rw [e2, e3]
        have e4 : v * pw i = (σ (d + 1) ((at' : Int) + i) + c + σ (d + 2) i) * pw i := by rw [hv]
        grind
  refine bk_X1_giveBack hd (key (len + 1) 0 0 σ (by omega) (by decide) (by decide) OnR.rfl' hr (fun _ _ => rfl) (fun _ _ => rfl) ?_)
  show (0 : Int) + 0 * _ = 0 + 0
  rw [Int.zero_mul]
/-! plain facts for the guess -/
theorem gp_eU (u0 u1 u2 γ U2 : Int) : U2 + u2 * γ + u1 * (γ * 1000000000) + u0 * (γ * 1000000000 * 1000000000) = ((u0 * 1000000000 + u1) * 1000000000 + u2) * γ + U2 := by grind
theorem gp_tw {two v1 v2 u2 γ U2 V2 : Int} (h1 : 0 ≤ u2) (h2 : v2 ≤ 999999999) (h3 : 0 ≤ U2) (h4 : V2 < γ) (hγ : 0 < γ) (hU : (two * 1000000000 + u2) * γ + U2 < ((v1 * 1000000000 + v2) * γ + V2) * 1000000000) : two < (v1 + 1) * 1000000000 := by
  apply Classical.byContradiction
  intro w
  have a1 : ((v1 + 1) * 1000000000) * γ ≤ two * γ := Int.mul_le_mul_of_nonneg_right (by omega) (by omega)
  have a2 : 0 ≤ u2 * γ := Int.mul_nonneg h1 (by omega)
  have a3 : v2 * γ ≤ 999999999 * γ := Int.mul_le_mul_of_nonneg_right h2 (by omega)
  grind
theorem gp_low {two v1 v2 u2 γ U2 V2 g : Int} (h0 : 0 ≤ g) (h1 : u2 ≤ 999999999) (h2 : 0 ≤ v2) (h3 : U2 < γ) (h4 : 0 ≤ V2) (hγ : 0 < γ) (hg : two < (g + 1) * v1) : (two * 1000000000 + u2) * γ + U2 < (g + 1) * ((v1 * 1000000000 + v2) * γ + V2) := by
  have a1 : (two + 1) * γ ≤ (g + 1) * v1 * γ := Int.mul_le_mul_of_nonneg_right (by omega) (by omega)
  have a2 : u2 * γ ≤ 999999999 * γ := Int.mul_le_mul_of_nonneg_right h1 (by omega)
  have a3 : 0 ≤ (g + 1) * (v2 * γ) := Int.mul_nonneg (by omega) (Int.mul_nonneg h2 (by omega))
  have a4 : 0 ≤ (g + 1) * V2 := Int.mul_nonneg (by omega) h4
  grind
theorem gp_up {two v1 v2 u2 γ U2 V2 g : Int} (h0 : 0 ≤ g) (h1 : g ≤ 1000000000) (h2 : 0 ≤ two) (h3 : 0 ≤ u2) (h4 : 0 ≤ U2) (h5 : V2 < γ) (h6 : 0 ≤ V2) (h7 : 1 ≤ v1) (h8 : 0 ≤ v2) (hγ : 0 < γ) (ht : g * (v1 * 1000000000 + v2) ≤ two * 1000000000 + u2) : (g - 1) * ((v1 * 1000000000 + v2) * γ + V2) ≤ (two * 1000000000 + u2) * γ + U2 := by
  rcases Int.lt_or_le g 1 with w | w
  · have : g = 0 := by omega
    subst this
    have b1 : 0 ≤ (two * 1000000000 + u2) * γ := Int.mul_nonneg (by omega) (by omega)
    have b2 : 0 ≤ (v1 * 1000000000 + v2) * γ := Int.mul_nonneg (by omega) (by omega)
    omega
  · have a1 : g * (v1 * 1000000000 + v2) * γ ≤ (two * 1000000000 + u2) * γ := Int.mul_le_mul_of_nonneg_right ht (by omega)
    have a2 : (g - 1) * V2 ≤ (g - 1) * γ := Int.mul_le_mul_of_nonneg_left (by omega) (by omega)
    have a3 : (g - 1) * γ ≤ (v1 * 1000000000 + v2) * γ := Int.mul_le_mul_of_nonneg_right (by omega) (by omega)
    have e : (g - 1) * ((v1 * 1000000000 + v2) * γ + V2) = g * (v1 * 1000000000 + v2) * γ - (v1 * 1000000000 + v2) * γ + (g - 1) * V2 := by grind
    omega
theorem gp_far {two v1 v2 u2 γ U2 V2 g : Int} (h0 : g ≤ 1000000004) (h2 : 0 ≤ two) (h3 : 0 ≤ u2) (h4 : 0 ≤ U2) (h5 : V2 < γ) (h6 : 0 ≤ V2) (h7 : 250000010 ≤ v1) (h8 : 0 ≤ v2) (h9 : v2 ≤ 999999999) (hγ : 0 < γ) (ht : g * v1 ≤ two) : (g - 4) * ((v1 * 1000000000 + v2) * γ + V2) ≤ (two * 1000000000 + u2) * γ + U2 := by
  have b1 : 0 ≤ (two * 1000000000 + u2) * γ := Int.mul_nonneg (by omega) (by omega)
  rcases Int.lt_or_le g 4 with w | w
  · have b2 : 0 ≤ (v1 * 1000000000 + v2) * γ := Int.mul_nonneg (by omega) (by omega)
    have b3 : (g - 4) * ((v1 * 1000000000 + v2) * γ + V2) ≤ 0 := Int.mul_nonpos_of_nonpos_of_nonneg (by omega) (by omega)
    omega
  · have a1 : g * v1 * γ ≤ two * γ := Int.mul_le_mul_of_nonneg_right ht (by omega)
    have a2 : 0 ≤ u2 * γ := Int.mul_nonneg h3 (by omega)
    have a3 : v2 * γ ≤ 999999999 * γ := Int.mul_le_mul_of_nonneg_right h9 (by omega)
    have a4 : (g - 4) * (v2 * γ + V2) ≤ (g - 4) * (1000000000 * γ) := Int.mul_le_mul_of_nonneg_left (by omega) (by omega)
    have a5 : (g - 4) * γ ≤ (4 * v1) * γ := Int.mul_le_mul_of_nonneg_right (by omega) (by omega)
    have e : (g - 4) * ((v1 * 1000000000 + v2) * γ + V2) = 1000000000 * (g * v1 * γ) - 4000000000 * (v1 * γ) + (g - 4) * (v2 * γ + V2) := by grind
    have e2 : (g - 4) * (1000000000 * γ) = 1000000000 * ((g - 4) * γ) := by grind
    have e3 : (4 * v1) * γ = 4 * (v1 * γ) := by grind
    have e4 : (two * 1000000000 + u2) * γ = 1000000000 * (two * γ) + u2 * γ := by grind
    omega
theorem gp_dec {two v1 v2 u2 γ U2 V2 g left : Int} (h0 : 0 ≤ g) (h3 : U2 < γ) (h4 : 0 ≤ V2) (hγ : 0 < γ) (hl : left = two - g * v1) (ht : left * 1000000000 + u2 < g * v2) : (two * 1000000000 + u2) * γ + U2 < (g - 1 + 1) * ((v1 * 1000000000 + v2) * γ + V2) := by
  have a3 : two * 1000000000 = left * 1000000000 + g * v1 * 1000000000 := by rw [hl]; grind
  have a4 : two * 1000000000 + u2 + 1 ≤ g * (v1 * 1000000000 + v2) := by grind
  have a5 : (two * 1000000000 + u2 + 1) * γ ≤ g * (v1 * 1000000000 + v2) * γ := Int.mul_le_mul_of_nonneg_right a4 (by omega)
  have a6 : 0 ≤ g * V2 := Int.mul_nonneg h0 h4
  grind
theorem gp_tst {two v1 v2 u2 g left : Int} (hl : left = two - g * v1) (ht : g * v2 ≤ left * 1000000000 + u2) : g * (v1 * 1000000000 + v2) ≤ two * 1000000000 + u2 := by
  have a3 : two * 1000000000 = left * 1000000000 + g * v1 * 1000000000 := by rw [hl]; grind
  grind
theorem gp_pos {v1 v2 γ V2 : Int} (h7 : 250000010 ≤ v1) (h8 : 0 ≤ v2) (h6 : 0 ≤ V2) (hγ : 0 < γ) : 0 < (v1 * 1000000000 + v2) * γ + V2 := by
  have := Int.mul_pos (show 0 < v1 * 1000000000 + v2 by omega) hγ
  omega
theorem gp_left {g g0 v1 two left : Int} (hl : left = two - g * v1) (h1 : two < (g0 + 1) * v1) (h2 : g0 - 3 ≤ g) (h3 : 0 ≤ v1) (h4 : v1 ≤ 1000000000) : left ≤ 5000000000 := by
  have : (g0 - 3) * v1 ≤ g * v1 := Int.mul_le_mul_of_nonneg_right h2 h3
  have e : (g0 + 1) * v1 = (g0 - 3) * v1 + 4 * v1 := by grind
  omega
/-- the guess for a part: right, or one too high. U the window, V the divisor, by their highest parts -/
theorem c_guessPart {X : ZS} {σ : ZM} {T : Int → ZM → Prop} {d : Int} {at' len : Nat} (hd : z_l d = (1, 4)) (hf : Fix σ) (hln : σ d 2 = len) (hl2 : 2 ≤ len) (hal : at' + len ≤ 12) (hr : dg (σ (d + 1)) (at' + len + 1)) (hb : dg (σ (d + 2)) (len + 1)) (hb0 : σ (d + 2) len = 0) (hlead : 250000010 ≤ σ (d + 2) ((len : Int) - 1))
    (hU : dv (sh (σ (d + 1)) at') (len + 1) < dv (σ (d + 2)) (len + 1) * 1000000000)
    (h : ∀ g : Int, 0 ≤ g → dv (sh (σ (d + 1)) at') (len + 1) < (g + 1) * dv (σ (d + 2)) (len + 1) → (g - 1) * dv (σ (d + 2)) (len + 1) ≤ dv (sh (σ (d + 1)) at') (len + 1) → g ≤ 1000000000 → T g σ) :
    ZC X (rX1_guessPart zN) mX1_guessPart [(2, d), (0, (at' : Int))] zN σ (zQl T) := by
  obtain ⟨m, rfl⟩ : ∃ m : Nat, len = m + 2 := ⟨len - 2, by omega⟩
  obtain ⟨u0, hu0⟩ : ∃ u : Int, u = σ (d + 1) ((at' : Int) + ((m + 2 : Nat) : Int)) := ⟨_, rfl⟩
  obtain ⟨u1, hu1⟩ : ∃ u : Int, u = σ (d + 1) ((at' : Int) + ((m + 2 : Nat) : Int) - 1) := ⟨_, rfl⟩
  obtain ⟨u2, hu2⟩ : ∃ u : Int, u = σ (d + 1) ((at' : Int) + ((m + 2 : Nat) : Int) - 2) := ⟨_, rfl⟩
  obtain ⟨v1, hv1⟩ : ∃ u : Int, u = σ (d + 2) (((m + 2 : Nat) : Int) - 1) := ⟨_, rfl⟩
  obtain ⟨v2, hv2⟩ : ∃ u : Int, u = σ (d + 2) (((m + 2 : Nat) : Int) - 2) := ⟨_, rfl⟩
  obtain ⟨γ, hγ⟩ : ∃ u : Int, u = pw m := ⟨_, rfl⟩
  obtain ⟨U, hUd⟩ : ∃ u : Int, u = dv (sh (σ (d + 1)) at') (m + 2 + 1) := ⟨_, rfl⟩
  obtain ⟨V, hVd⟩ : ∃ u : Int, u = dv (σ (d + 2)) (m + 2 + 1) := ⟨_, rfl⟩
  obtain ⟨U2, hU2⟩ : ∃ u : Int, u = dv (sh (σ (d + 1)) at') m := ⟨_, rfl⟩
  obtain ⟨V2, hV2⟩ : ∃ u : Int, u = dv (σ (d + 2)) m := ⟨_, rfl⟩
  rw [← hUd, ← hVd] at hU h
  have ru0 := hr ((at' : Int) + ((m + 2 : Nat) : Int)) (by omega) (by omega)
  have ru1 := hr ((at' : Int) + ((m + 2 : Nat) : Int) - 1) (by omega) (by omega)
  have ru2 := hr ((at' : Int) + ((m + 2 : Nat) : Int) - 2) (by omega) (by omega)
  have rv1 := hb (((m + 2 : Nat) : Int) - 1) (by omega) (by omega)
  have rv2 := hb (((m + 2 : Nat) : Int) - 2) (by omega) (by omega)
  rw [← hu0] at ru0
  rw [← hu1] at ru1
  rw [← hu2] at ru2
  rw [← hv1] at rv1 hlead
  rw [← hv2] at rv2
  have rU2 : 0 ≤ U2 ∧ U2 < γ := by
    rw [hU2, hγ]
    exact dv_rng (fun j g1 g2 => hr _ (by omega) (by omega))
  have rV2 : 0 ≤ V2 ∧ V2 < γ := by
    rw [hV2, hγ]
    exact dv_rng (hb.mono (by omega))
  have hγ0 : 0 < γ := by rw [hγ]; exact pw_pos m
  have eU : U = ((u0 * 1000000000 + u1) * 1000000000 + u2) * γ + U2 := by
    have x0 : sh (σ (d + 1)) at' ((m + 2 : Nat) : Int) = u0 := by rw [hu0]; rfl
    have x1 : sh (σ (d + 1)) at' ((m + 1 : Nat) : Int) = u1 := by
      rw [hu1]; unfold sh; congr 1; omega
    have x2 : sh (σ (d + 1)) at' ((m : Nat) : Int) = u2 := by
      rw [hu2]; unfold sh; congr 1; omega
    have p2 : pw (m + 2) = pw m * 1000000000 * 1000000000 := by rw [pw_s (m + 1), pw_s m]
    rw [hUd, dv_s, dv_s, dv_s, x0, x1, x2, p2, pw_s m, ← hγ, ← hU2]
    exact gp_eU u0 u1 u2 γ U2
  have eV : V = (v1 * 1000000000 + v2) * γ + V2 := by
    have x1 : σ (d + 2) ((m + 1 : Nat) : Int) = v1 := by rw [hv1]; congr 1; omega
    have x2 : σ (d + 2) ((m : Nat) : Int) = v2 := by rw [hv2]; congr 1; omega
    rw [hVd, dv_s, dv_s, dv_s, hb0, x1, x2, Int.zero_mul, Int.add_zero, pw_s m, ← hγ, ← hV2, Int.add_mul]
    have : v1 * (γ * 1000000000) = v1 * 1000000000 * γ := by rw [Int.mul_comm γ, Int.mul_assoc]
    omega
  obtain ⟨two, htwo⟩ : ∃ u : Int, u = u0 * 1000000000 + u1 := ⟨_, rfl⟩
  rw [← htwo] at eU
  have htwo0 : 0 ≤ two := by omega
  -- two < (v1 + 1) B
  have htw : two < (v1 + 1) * 1000000000 := gp_tw (v2 := v2) (u2 := u2) (γ := γ) (U2 := U2) (V2 := V2) ru2.1 (by omega) rU2.1 rV2.2 hγ0 (by rw [← eU, ← eV]; exact hU)
  obtain ⟨g0, hg0⟩ : ∃ u : Int, u = two / v1 := ⟨_, rfl⟩
  have hg0a : g0 * v1 ≤ two := by rw [hg0]; exact Int.ediv_mul_le _ (by omega)
  have hg0b : two < (g0 + 1) * v1 := by
    have := Int.lt_ediv_add_one_mul_self two (show 0 < v1 by omega)
    rw [hg0]; exact this
  have hg00 : 0 ≤ g0 := by rw [hg0]; exact Int.ediv_nonneg htwo0 (by omega)
  have hg0c : g0 ≤ 1000000004 := by
    apply Classical.byContradiction
    intro w
    have a1 : 1000000005 * v1 ≤ g0 * v1 := Int.mul_le_mul_of_nonneg_right (by omega) (by omega)
    omega
  -- below
  have low0 : U < (g0 + 1) * V := by
    rw [eU, eV]
    exact gp_low hg00 (by omega) rv2.1 rU2.2 rV2.1 hγ0 hg0b
  have hV0 : 0 < V := by rw [eV]; exact gp_pos hlead rv2.1 rV2.1 hγ0
  -- the test holds: not more than one too high
  have up1 : ∀ g : Int, 0 ≤ g → g ≤ 1000000000 → g * (v1 * 1000000000 + v2) ≤ two * 1000000000 + u2 → (g - 1) * V ≤ U := by
    intro g h0 h1 h2
    rw [eU, eV]
    exact gp_up h0 h1 htwo0 ru2.1 rU2.1 rV2.2 rV2.1 (by omega) rv2.1 hγ0 h2
  have key : ∀ (k f : Nat) (g left : Int), f + k = 3 → g = g0 - f → left = two - g * v1 → 0 ≤ g → U < (g + 1) * V →
      Z X (rX1_guessPart zN) mX1_guessPart 69 [(2, d), (9, 0), (0, (at' : Int) + ((m + 2 : Nat) : Int)), (1, v1), (9, 0), (9, 0), (9, 0), (1, g), (9, 0), (1, left), (9, 0), (0, (f : Int))] [] zN σ (zQl T) := by
    intro k
    induction k with
    | zero =>
      intro f g left hfk hg hleft hgz hlow
      have hf3 : f = 3 := by omega
      subst hf3
      have fin : T g σ := by
        have g9 : g ≤ 1000000000 ∨ g = 1000000001 := by omega
        have a2 : (g - 1) * V ≤ U := by
          rw [show g - 1 = g0 - 4 by omega, eU, eV]
          exact gp_far hg0c htwo0 ru2.1 rU2.1 rV2.2 rV2.1 hlead rv2.1 (by omega) hγ0 hg0a
        rcases g9 with g9 | g9
        · exact h g hgz hlow a2 g9
        · exfalso
          rw [g9] at a2
          omega
      exact bk_X1_guessPart_69 hd ⟨by decide, fun _ => fin, fun q => absurd (by decide) q⟩
    | succ k ih =>
      intro f g left hfk hg hleft hgz hlow
      have hleft0 : 0 ≤ left := by
        have : g * v1 ≤ g0 * v1 := Int.mul_le_mul_of_nonneg_right (by omega) (by omega)
        omega
      have hleft1 : left ≤ 5000000000 := gp_left hleft hg0b (by omega) (by omega) (by omega)
      have ef : ((f : Int) + 1) = ((f + 1 : Nat) : Int) := by omega
      refine bk_X1_guessPart_69 hd ⟨by constructor <;> omega, fun q => absurd q (by omega), fun _ => ⟨by constructor <;> omega, fun q => ?_, fun q => ⟨by constructor <;> omega, fun q2 => ?_, fun q2 => ⟨hf, by rw [hln]; omega, by rw [hln]; omega, ?_, by omega, by omega, ?_, ?_, ?_, fun q3 => ?_, fun q3 => ?_⟩⟩⟩⟩
      · -- what is left is a part or more: the test holds by itself
        have hgB : g ≤ 999999999 := by
          apply Classical.byContradiction
          intro w
          have : 1000000000 * v1 ≤ g * v1 := Int.mul_le_mul_of_nonneg_right (by omega) (by omega)
          omega
        have a1 : g * v2 ≤ 1000000000 * 1000000000 := Int.mul_le_mul (by omega) (by omega) rv2.1 (by decide)
        exact h g hgz hlow (up1 g hgz (by omega) (gp_tst hleft (by omega))) (by omega)
      · rw [ef]
        refine ih (f + 1) (g - 1) (left + v1) (by omega) (by omega) (by rw [hleft, Int.sub_mul, Int.one_mul]; omega) (by omega) ?_
        have : V * 1000000000 ≤ V * g := Int.mul_le_mul_of_nonneg_left q2 (by omega)
        rw [show g - 1 + 1 = g by omega, Int.mul_comm g V]
        omega
      all_goals try rw [hln]
      · rw [← hv2]; constructor <;> omega
      · rw [← hu2]; constructor <;> omega
      · rw [← hv2]
        have a1 : g * v2 ≤ 1000000000 * 1000000000 := Int.mul_le_mul (by omega) (by omega) rv2.1 (by decide)
        have a2 : 0 ≤ g * v2 := Int.mul_nonneg hgz rv2.1
        constructor <;> omega
      · rw [← hu2]; constructor <;> omega
      · rw [hln, ← hv2, ← hu2] at q3
        rw [ef]
        have hg1 : 1 ≤ g := by
          apply Classical.byContradiction
          intro w
          have : g = 0 := by omega
          rw [this, Int.zero_mul] at q3
          omega
        refine ih (f + 1) (g - 1) (left + v1) (by omega) (by omega) (by rw [hleft, Int.sub_mul, Int.one_mul]; omega) (by omega) ?_
        rw [eU, eV]
        exact gp_dec hgz rU2.2 rV2.1 hγ0 hleft q3
      · rw [hln, ← hv2, ← hu2] at q3
        exact h g hgz hlow (up1 g hgz (by omega) (gp_tst hleft (by omega))) (by omega)
  refine bk_X1_guessPart hd ⟨hf, by rw [hln]; omega, by rw [hln]; omega, ?_⟩
  rw [hln, ← hv1, ← hu0, ← hu1, ← htwo]
  refine ⟨by constructor <;> omega, by constructor <;> omega, fun _ => ⟨by omega, by omega, by constructor <;> omega, by omega, by omega, by constructor <;> omega, by constructor <;> omega, by omega, ?_⟩, fun q => absurd q (by omega)⟩
  rw [Int.tdiv_eq_ediv_of_nonneg htwo0, ← hg0]
  exact key 3 0 g0 _ (by omega) (by omega) rfl hg00 low0
