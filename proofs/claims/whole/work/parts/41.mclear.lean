theorem pw6 : pw 6 * pw 6 + pw 6 * pw 6 < pw 15 := by unfold pw; decide +kernel
theorem m_cell {X : ZS} {σ : ZM} {T : Int → ZM → Prop} {i j : Int} (h : T (20 + 10 * i + j) σ) : ZC X (rX12_cell zN) mX12_cell [(2, 211), (0, i), (0, j)] zN σ (zQi T) := bk_X12_cell h
theorem Mo.f {σ σ' : ZM} (h : Mo σ σ') (i : Int) : σ' 211 i = σ 211 i := by rw [h 211 (by decide) (by decide) (by decide) (by decide)]
theorem c_clears {X : ZS} {σ : ZM} {T : ZM → Prop} {v : Int → Int} {i c r wd : Nat} {N : Nat → Int} (hi : i < 9) (hr : r < 9) (hir : i ≠ r) (hc : c < wd) (hw : wd ≤ 10) (h19 : σ 211 19 = r) (h18 : σ 211 18 = wd) (hN : NM σ v) (hD : v 8 ≠ 0) (hD1 : -pw 6 < v 8 ∧ v 8 < pw 6)
    (hq : ∀ j : Nat, j < wd → v (20 + 10 * i + j) * v (20 + 10 * r + c) - v (20 + 10 * i + c) * v (20 + 10 * r + j) = N j * v 8)
    (hB : ∀ j : Nat, j < wd → (-pw 6 < v (20 + 10 * i + j) ∧ v (20 + 10 * i + j) < pw 6) ∧ (-pw 6 < v (20 + 10 * r + j) ∧ v (20 + 10 * r + j) < pw 6))
    (hT : ∀ σ' v', Mo σ σ' → NM σ' v' → (∀ j : Nat, j < wd → v' (20 + 10 * i + j) = N j) → (∀ a : Int, a ≠ 6 → a ≠ 7 → a ≠ 10 → ¬ (20 + 10 * i ≤ a ∧ a < 20 + 10 * i + wd) → v' a = v a) → T σ') :
    ZC X (rX12_clears zN) mX12_clears [(2, 211), (0, (i : Int)), (0, (c : Int))] zN σ (zQv T) := by
  have p6 := pw6
  have p15 := pw_pos 15
  have pp6 := pw_pos 6
  have p615 : pw 6 ≤ pw 15 := pw_mono (by decide)
  have loop : ∀ (l j : Nat) (τ : ZM) (u : Int → Int), j + l = wd → Mo σ τ → NM τ u → u 10 = v (20 + 10 * i + c) → (∀ j' : Nat, j' < j → u (20 + 10 * i + j') = N j') → (∀ a : Int, a ≠ 6 → a ≠ 7 → a ≠ 10 → ¬ (20 + 10 * i ≤ a ∧ a < 20 + 10 * i + j) → u a = v a) →
      Z X (rX12_clears zN) mX12_clears 14 [(2, 211), (0, (i : Int)), (0, (c : Int)), (0, (j : Int))] [] zN τ (zQv T) := by
    intro l
    induction l with
    | zero =>
      intro j τ u hj ho hn h10 hd hs
      have : j = wd := by omega
      subst this
      refine bk_X12_clears_14 ⟨by constructor <;> omega, by rw [ho.f, h18]; constructor <;> omega, fun _ => hT τ u ho hn hd hs, fun q => absurd (by rw [ho.f, h18]; omega) q⟩
    | succ l ih =>
      intro j τ u hj ho hn h10 hd hs
      have bj := hB j (by omega)
      have bc := hB c hc
      have ui : u (20 + 10 * i + j) = v (20 + 10 * i + j) := hs _ (by omega) (by omega) (by omega) (by omega)
      have ur : ∀ j' : Nat, j' < wd → u (20 + 10 * r + j') = v (20 + 10 * r + j') := fun j' hj' => hs _ (by omega) (by omega) (by omega) (by omega)
      have u8 : u 8 = v 8 := hs 8 (by decide) (by decide) (by decide) (by omega)
      have b1 := gr_prod bj.1.1 bj.1.2 bc.2.1 bc.2.2
      have b2 := gr_prod bc.1.1 bc.1.2 bj.2.1 bj.2.2
      refine bk_X12_clears_14 ⟨by constructor <;> omega, by rw [ho.f, h18]; constructor <;> omega, fun q => absurd q (by rw [ho.f, h18]; omega), fun _ => ?_⟩
      refine m_cell (m_cell ?_)
      rw [ho.f, h19]
      refine c_times (by decide) (by decide) (by omega) (by omega) (by omega) (by omega) hn (by rw [ui]; omega) (by rw [ur c hc]; omega) (by rw [ui, ur c hc]; omega) (by rw [ui, ur c hc]; omega) (fun τ1 o1 n1 => m_cell ?_)
      rw [ui, ur c hc] at n1
      rw [o1.f, ho.f, h19]
      obtain ⟨E, hE⟩ : ∃ E : Int, E = v (20 + 10 * i + j) * v (20 + 10 * r + c) := ⟨_, rfl⟩
      obtain ⟨F, hF⟩ : ∃ F : Int, F = v (20 + 10 * i + c) * v (20 + 10 * r + j) := ⟨_, rfl⟩
      rw [← hE] at n1 b1
      have f10 : fu u 6 E 10 = v (20 + 10 * i + c) := by rw [fu_n _ _ (by decide), h10]
      have frj : fu u 6 E (20 + 10 * r + j) = v (20 + 10 * r + j) := by rw [fu_n _ _ (by omega), ur j (by omega)]
      refine c_times (by decide) (by decide) (by decide) (by decide) (by omega) (by omega) n1 (by rw [f10]; omega) (by rw [frj]; omega) (by rw [f10, frj]; omega) (by rw [f10, frj]; omega) (fun τ2 o2 n2 => ?_)
      rw [f10, frj, ← hF] at n2
      rw [← hF] at b2
      have g6 : fu (fu u 6 E) 7 F 6 = E := by rw [fu_n _ _ (by decide), fu_s]
      have g7 : fu (fu u 6 E) 7 F 7 = F := fu_s _ _ _
      refine c_more (by decide) (by decide) (by decide) (by decide) (by decide) n2 (by decide) (by rw [g6, g7]; omega) (by rw [g6, g7]; omega) (fun τ3 o3 n3 => ?_)
      rw [g6, g7, show E + F * -1 = E - F by omega, hE, hF, hq j (by omega)] at n3
      rw [← hE, ← hF] at n3
      have k6 : fu (fu (fu u 6 E) 7 F) 6 (N j * v 8) 6 = N j * v 8 := fu_s _ _ _
      have k8 : fu (fu (fu u 6 E) 7 F) 6 (N j * v 8) 8 = v 8 := by rw [fu_n _ _ (by decide), fu_n _ _ (by decide), fu_n _ _ (by decide), u8]
      have hEF : N j * v 8 = E - F := by rw [← hq j (by omega), hE, hF]
      refine c_parts (by decide) (by decide) (by decide) (by decide) n3 (by rw [k6, hEF]; omega) (by rw [k8]; omega) (by rw [k8]; exact hD) (fun τ4 o4 n4 => m_cell ?_)
      rw [k6, k8, Int.mul_tdiv_cancel _ hD] at n4
      refine c_copy (by omega) (by omega) (by decide) (by decide) n4 (fun τ5 o5 n5 => ?_)
      rw [fu_s] at n5
      refine ih (j + 1) τ5 _ (by omega) (((((ho.trans o1).trans o2).trans o3).trans o4).trans o5) n5 ?_ (fun j' hj' => ?_) (fun a a1 a2 a3 a4 => ?_)
      · rw [fu_n _ _ (by omega), fu_n _ _ (by decide), fu_n _ _ (by decide), fu_n _ _ (by decide), fu_n _ _ (by decide), h10]
      · by_cases e : j' = j
        · subst e; rw [fu_s]
        · rw [fu_n _ _ (by omega), fu_n _ _ (by omega), fu_n _ _ (by omega), fu_n _ _ (by omega), fu_n _ _ (by omega)]
          exact hd j' (by omega)
      · rw [fu_n _ _ (by omega), fu_n _ _ a1, fu_n _ _ a1, fu_n _ _ a2, fu_n _ _ a1]
        exact hs a a1 a2 a3 (by omega)
  refine bk_X12_clears (m_cell (c_copy (by decide) (by decide) (by omega) (by omega) hN (fun τ o n => ?_)))
  refine loop wd 0 τ _ (by omega) o n (fu_s _ _ _) (fun j' hj' => absurd hj' (by omega)) (fun a a1 a2 a3 a4 => fu_n _ _ a3)
