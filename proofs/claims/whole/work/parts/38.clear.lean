theorem c_clearColumn {X : ZS} {σ : ZM} {T : ZM → Prop} {w : Int → Int} {k f rows cols : Nat} {N : Nat → Nat → Int} (hk : k < rows) (hr : rows ≤ 7) (hc : cols ≤ 8) (hf7 : f ≤ 7) (hg : GP (σ 17)) (h : WN σ w) (hD : w 20 ≠ 0)
    (hN : ∀ i j : Nat, f ≤ i → i < rows → i ≠ k → k < j → j < cols → w (σ 17 ((k : Int) * 8 + k)) * w (σ 17 ((i : Int) * 8 + j)) - w (σ 17 ((i : Int) * 8 + k)) * w (σ 17 ((k : Int) * 8 + j)) = N i j * w 20)
    (hB : ∀ i j : Nat, i = k ∨ f ≤ i → i < rows → k ≤ j → j < cols → -pw 5 < w (σ 17 ((i : Int) * 8 + j)) ∧ w (σ 17 ((i : Int) * 8 + j)) < pw 5)
    (hT : ∀ σ' w', Ou 18 140 σ σ' → WN σ' w' → (∀ i j : Nat, i < 7 → j < 8 → w' (σ 17 ((i : Int) * 8 + j)) = if f ≤ i ∧ i < rows ∧ i ≠ k ∧ k < j ∧ j < cols then N i j else w (σ 17 ((i : Int) * 8 + j))) → (∀ a : Int, a < 29 ∨ 139 < a → a ≠ 22 → a ≠ 24 → w' a = w a) → T σ') :
    ZC X (rX4_clearColumn zN) mX4_clearColumn [(2, 16), (0, (k : Int)), (0, (f : Int)), (0, (rows : Int)), (0, (cols : Int))] zN σ (zQv T) := by
  obtain ⟨g, hgd⟩ : ∃ g : Int → Int, g = σ 17 := ⟨_, rfl⟩
  rw [← hgd] at hg hN hB hT
  have lp := hg.at (i := k) (j := k) (by omega) (by omega)
  have gτ : ∀ {τ : ZM}, Ou 18 140 σ τ → τ 17 = g := fun {τ} o => by rw [hgd]; exact o 17 (by omega)
  -- the invariant
  obtain ⟨I, hI⟩ : ∃ I : Nat → Nat → (Int → Int) → Prop, I = fun i0 j0 w' => (∀ i j : Nat, i < 7 → j < 8 → w' (g ((i : Int) * 8 + j)) = if f ≤ i ∧ i < rows ∧ i ≠ k ∧ k < j ∧ j < cols ∧ (i < i0 ∨ i = i0 ∧ j < j0) then N i j else w (g ((i : Int) * 8 + j))) ∧ (∀ a : Int, a < 29 ∨ 139 < a → a ≠ 22 → a ≠ 24 → w' a = w a) := ⟨_, rfl⟩
  have i20 : ∀ {i0 j0 : Nat} {w' : Int → Int}, I i0 j0 w' → w' 20 = w 20 := fun {i0 j0 w'} q => by rw [hI] at q; exact q.2 20 (by decide) (by decide) (by decide)
  have iold : ∀ {i0 j0 : Nat} {w' : Int → Int}, I i0 j0 w' → ∀ i j : Nat, i < 7 → j < 8 → ¬ (i ≠ k ∧ k < j ∧ (i < i0 ∨ i = i0 ∧ j < j0)) → w' (g ((i : Int) * 8 + j)) = w (g ((i : Int) * 8 + j)) := fun {i0 j0 w'} q i j i7 j8 hn => by
    rw [hI] at q
    rw [q.1 i j i7 j8, if_neg (by intro c; exact hn ⟨c.2.2.1, c.2.2.2.1, c.2.2.2.2.2⟩)]
  have cell : ∀ {τ : ZM} {T' : Int → ZM → Prop} {i j : Nat}, i < 7 → j < 8 → Fix τ → Ou 18 140 σ τ → T' (g ((i : Int) * 8 + j)) τ → ZC X (rX4_cell zN) mX4_cell [(2, 16), (0, (i : Int)), (0, (j : Int))] zN τ (zQa T') := fun {τ T' i j} i7 j8 hf o hT' => c_cell i7 j8 hf (by rw [gτ o]; exact hT')
  have rowsL : ∀ (x6 : Int), r64 x6 → (∀ τ : ZM, ∀ w', WN τ w' → w' 20 = w 20 → ¬ 2 ≤ τ 20 1 → x6 = w 20) → ∀ (l i : Nat) (τ : ZM) (w' : Int → Int), (i + l = rows ∨ l = 0 ∧ rows ≤ i) → f ≤ i → i ≤ 14 → Ou 18 140 σ τ → WN τ w' → I i 0 w' →
      Z X (rX4_clearColumn zN) mX4_clearColumn 20 [(2, 16), (0, (k : Int)), (9, 0), (0, (rows : Int)), (0, (cols : Int)), (2, g ((k : Int) * 8 + k)), (1, x6), (9, 0), (0, (i : Int)), (9, 0), (9, 0), (9, 0), (9, 0), (9, 0), (9, 0), (9, 0)] [] zN τ (zQv T) := by
    intro x6 hx6 hxs l
    induction l with
    | zero =>
      intro i τ w' hil hfi hi14 o n inv
      refine bk_X4_clearColumn_20 lp.1 ⟨by constructor <;> omega, by constructor <;> omega, fun _ => ?_, fun q => absurd (by omega) q⟩
      rw [hI] at inv
      refine hT τ w' o n (fun i' j' i7 j8 => ?_) inv.2
      rw [inv.1 i' j' i7 j8]
      by_cases c : f ≤ i' ∧ i' < rows ∧ i' ≠ k ∧ k < j' ∧ j' < cols
      · rw [if_pos c, if_pos ⟨c.1, c.2.1, c.2.2.1, c.2.2.2.1, c.2.2.2.2, by omega⟩]
      · rw [if_neg c, if_neg (fun q => c ⟨q.1, q.2.1, q.2.2.1, q.2.2.2.1, q.2.2.2.2.1⟩)]
    | succ l ih =>
      intro i τ w' hil hfi hi14 o n inv
      have hir : i < rows := by omega
      by_cases hik : i = k
      · subst hik
        refine bk_X4_clearColumn_20 lp.1 ⟨by constructor <;> omega, by constructor <;> omega, fun q => absurd q (by omega), fun _ => ⟨by constructor <;> omega, fun q => absurd rfl q, fun _ => ?_⟩⟩
        refine ih (i + 1) τ w' (by omega) (by omega) (by omega) o n ?_
        rw [hI] at inv ⊢
        refine ⟨fun i' j' i7 j8 => ?_, inv.2⟩
        rw [inv.1 i' j' i7 j8]
        by_cases c : f ≤ i' ∧ i' < rows ∧ i' ≠ i ∧ i < j' ∧ j' < cols ∧ (i' < i ∨ i' = i ∧ j' < 0)
        · rw [if_pos c, if_pos ⟨c.1, c.2.1, c.2.2.1, c.2.2.2.1, c.2.2.2.2.1, by omega⟩]
        · rw [if_neg c, if_neg (fun q => c ⟨q.1, q.2.1, q.2.2.1, q.2.2.2.1, q.2.2.2.2.1, by omega⟩)]
      · -- a row
        have ll := hg.at (i := i) (j := k) (by omega) (by omega)
        have colsL : ∀ (x10 : Int), (x10 = 0 ∨ x10 = 1 ∧ x6 = w 20 ∧ (-pw 1 < w (g ((k : Int) * 8 + k)) ∧ w (g ((k : Int) * 8 + k)) < pw 1) ∧ (-pw 1 < w (g ((i : Int) * 8 + k)) ∧ w (g ((i : Int) * 8 + k)) < pw 1)) → ∀ (m j : Nat) (τ : ZM) (w' : Int → Int), (j + m = cols ∨ m = 0 ∧ cols ≤ j) → k < j → j ≤ 14 → Ou 18 140 σ τ → WN τ w' → I i j w' →
            Z X (rX4_clearColumn zN) mX4_clearColumn 92 [(2, 16), (0, (k : Int)), (9, 0), (0, (rows : Int)), (0, (cols : Int)), (2, g ((k : Int) * 8 + k)), (1, x6), (9, 0), (0, (i : Int)), (2, g ((i : Int) * 8 + k)), (0, x10), (0, (j : Int)), (9, 0), (9, 0), (9, 0), (9, 0)] [] zN τ (zQv T) := by
          intro x10 hx10 m
          induction m with
          | zero =>
            intro j τ w' hjm hkj hj14 o n inv
            refine bk_X4_clearColumn_92 lp.1 ll.1 ⟨by constructor <;> omega, by constructor <;> omega, fun _ => ?_, fun q => absurd (by omega) q⟩
            refine ih (i + 1) τ w' (by omega) (by omega) (by omega) o n ?_
            rw [hI] at inv ⊢
            refine ⟨fun i' j' i7 j8 => ?_, inv.2⟩
            rw [inv.1 i' j' i7 j8]
            by_cases c : f ≤ i' ∧ i' < rows ∧ i' ≠ k ∧ k < j' ∧ j' < cols ∧ (i' < i ∨ i' = i ∧ j' < j)
            · rw [if_pos c, if_pos ⟨c.1, c.2.1, c.2.2.1, c.2.2.2.1, c.2.2.2.2.1, by omega⟩]
            · rw [if_neg c, if_neg (fun q => c ⟨q.1, q.2.1, q.2.2.1, q.2.2.2.1, q.2.2.2.2.1, by omega⟩)]
          | succ m ihm =>
            intro j τ w' hjm hkj hj14 o n inv
            have hjc : j < cols := by omega
            have la := hg.at (i := i) (j := j) (by omega) (by omega)
            have lu := hg.at (i := k) (j := j) (by omega) (by omega)
            have vp : w' (g ((k : Int) * 8 + k)) = w (g ((k : Int) * 8 + k)) := iold inv k k (by omega) (by omega) (by omega)
            have vl : w' (g ((i : Int) * 8 + k)) = w (g ((i : Int) * 8 + k)) := iold inv i k (by omega) (by omega) (by omega)
            have va : w' (g ((i : Int) * 8 + j)) = w (g ((i : Int) * 8 + j)) := iold inv i j (by omega) (by omega) (by omega)
            have vu : w' (g ((k : Int) * 8 + j)) = w (g ((k : Int) * 8 + j)) := iold inv k j (by omega) (by omega) (by omega)
            have v20 := i20 inv
            have bp := hB k k (Or.inl rfl) hk (Nat.le_refl _) (by omega)
            have bl := hB i k (Or.inr hfi) hir (Nat.le_refl _) (by omega)
            have ba := hB i j (Or.inr hfi) hir (by omega) hjc
            have bu := hB k j (Or.inl rfl) hk (by omega) hjc
            have eq := hN i j hfi hir hik hkj hjc
            -- behind the cell
            have on : ∀ τ' w'', Ou 18 140 τ τ' → WN τ' w'' → w'' (g ((i : Int) * 8 + j)) = N i j → (∀ b : Int, b ≠ g ((i : Int) * 8 + j) → b ≠ 22 → b ≠ 24 → w'' b = w' b) → Z X (rX4_clearColumn zN) mX4_clearColumn 92 [(2, 16), (0, (k : Int)), (9, 0), (0, (rows : Int)), (0, (cols : Int)), (2, g ((k : Int) * 8 + k)), (1, x6), (9, 0), (0, (i : Int)), (2, g ((i : Int) * 8 + k)), (0, x10), (0, (j : Int) + 1), (9, 0), (9, 0), (9, 0), (9, 0)] [] zN τ' (zQv T) := by
              intro τ' w'' o' n' e1 e2
              refine ihm (j + 1) τ' w'' (by omega) (by omega) (by omega) (o.trans o') n' ?_
              rw [hI] at inv ⊢
              refine ⟨fun i' j' i7 j8 => ?_, fun a ha h22 h24 => ?_⟩
              · by_cases same : i' = i ∧ j' = j
                · rw [same.1, same.2, e1, if_pos ⟨hfi, hir, hik, hkj, hjc, by omega⟩]
                · have la' := hg.at (i := i') (j := j') i7 j8
                  rw [e2 _ (fun q => same (hg.ne i7 j8 (by omega) (by omega) q)) (by omega) (by omega), inv.1 i' j' i7 j8]
                  by_cases c : f ≤ i' ∧ i' < rows ∧ i' ≠ k ∧ k < j' ∧ j' < cols ∧ (i' < i ∨ i' = i ∧ j' < j)
                  · rw [if_pos c, if_pos ⟨c.1, c.2.1, c.2.2.1, c.2.2.2.1, c.2.2.2.2.1, by omega⟩]
                  · rw [if_neg c, if_neg (fun q => c ⟨q.1, q.2.1, q.2.2.1, q.2.2.2.1, q.2.2.2.2.1, by omega⟩)]
              · rw [e2 a (by omega) h22 h24]; exact inv.2 a ha h22 h24
            have big := gr_big (X := X) (T := fun τ' => Z X (rX4_clearColumn zN) mX4_clearColumn 92 [(2, 16), (0, (k : Int)), (9, 0), (0, (rows : Int)), (0, (cols : Int)), (2, g ((k : Int) * 8 + k)), (1, x6), (9, 0), (0, (i : Int)), (2, g ((i : Int) * 8 + k)), (0, x10), (0, (j : Int) + 1), (9, 0), (9, 0), (9, 0), (9, 0)] [] zN τ' (zQv T)) (q := N i j) lp.1 ll.1 la.1 lu.1 lp.2.1 ll.2.1 la.2.1 la.2.2 lu.2.1 n (by rw [vp]; exact bp) (by rw [vl]; exact bl) (by rw [va]; exact ba) (by rw [vu]; exact bu) (by rw [v20]; exact hD) (by rw [vp, vl, va, vu, v20]; exact eq) on
            refine bk_X4_clearColumn_92 lp.1 ll.1 ⟨by constructor <;> omega, by constructor <;> omega, fun q => absurd q (by omega), fun _ => ?_⟩
            refine cell (by omega) (by omega) n.1 o (cell (by omega) (by omega) n.1 o ⟨by omega, fun _ => big, fun hs => ⟨la.1, (n.wf la.1).s32, fun _ => big, fun s3 => ⟨lu.1, (n.wf lu.1).s32, fun _ => big, fun s4 => ?_⟩⟩⟩)
            obtain ⟨_, hx, sp, sl⟩ : x10 = 1 ∧ x6 = w 20 ∧ (-pw 1 < w (g ((k : Int) * 8 + k)) ∧ w (g ((k : Int) * 8 + k)) < pw 1) ∧ (-pw 1 < w (g ((i : Int) * 8 + k)) ∧ w (g ((i : Int) * 8 + k)) < pw 1) := by
              rcases hx10 with q | q
              · exact absurd q hs
              · exact q
            have zp := n.low lp.1 (by have := n.sz lp.1 (m := 1) (by rw [vp]; exact sp.1) (by rw [vp]; exact sp.2); omega)
            have zl := n.low ll.1 (by have := n.sz ll.1 (m := 1) (by rw [vl]; exact sl.1) (by rw [vl]; exact sl.2); omega)
            have za := n.low la.1 s3
            have zu := n.low lu.1 s4
            have gs := gr_small (x := w' (g ((k : Int) * 8 + k))) (y := w' (g ((i : Int) * 8 + j))) (z := w' (g ((i : Int) * 8 + k))) (u := w' (g ((k : Int) * 8 + j))) (q := N i j) (D := x6) zp.2 za.2 zl.2 zu.2 (by rw [hx]; exact hD) (by rw [vp, vl, va, vu, hx]; exact eq)
            refine c_lowest lp.1 n.1 (n.wf lp.1) (c_lowest la.1 n.1 (n.wf la.1) (c_lowest ll.1 n.1 (n.wf ll.1) (c_lowest lu.1 n.1 (n.wf lu.1) ?_)))
            rw [zp.1, za.1, zl.1, zu.1]
            refine ⟨gs.1, hx6, by rw [hx]; exact hD, ?_⟩
            rw [gs.2.1]
            exact w_put la.1 n gs.2.2.1 gs.2.2.2 (fun τ' o' n' => on τ' _ (Ou.ofW o' (by omega) (by omega)) n' (fu_s _ _ _) (fun b c1 _ _ => fu_n _ _ c1))
        have start : ∀ x10 : Int, (x10 = 0 ∨ x10 = 1 ∧ x6 = w 20 ∧ (-pw 1 < w (g ((k : Int) * 8 + k)) ∧ w (g ((k : Int) * 8 + k)) < pw 1) ∧ (-pw 1 < w (g ((i : Int) * 8 + k)) ∧ w (g ((i : Int) * 8 + k)) < pw 1)) → Z X (rX4_clearColumn zN) mX4_clearColumn 92 [(2, 16), (0, (k : Int)), (9, 0), (0, (rows : Int)), (0, (cols : Int)), (2, g ((k : Int) * 8 + k)), (1, x6), (9, 0), (0, (i : Int)), (2, g ((i : Int) * 8 + k)), (0, x10), (0, (k : Int) + 1), (9, 0), (9, 0), (9, 0), (9, 0)] [] zN τ (zQv T) := by
          intro x10 hx10
          refine colsL x10 hx10 (cols - (k + 1)) (k + 1) τ w' (by omega) (by omega) (by omega) o n ?_
          rw [hI] at inv ⊢
          refine ⟨fun i' j' i7 j8 => ?_, inv.2⟩
          rw [inv.1 i' j' i7 j8]
          by_cases c : f ≤ i' ∧ i' < rows ∧ i' ≠ k ∧ k < j' ∧ j' < cols ∧ (i' < i ∨ i' = i ∧ j' < 0)
          · rw [if_pos c, if_pos ⟨c.1, c.2.1, c.2.2.1, c.2.2.2.1, c.2.2.2.2.1, by omega⟩]
          · rw [if_neg c, if_neg (fun q => c ⟨q.1, q.2.1, q.2.2.1, q.2.2.2.1, q.2.2.2.2.1, by omega⟩)]
        have s0 := start 0 (Or.inl rfl)
        have vp : w' (g ((k : Int) * 8 + k)) = w (g ((k : Int) * 8 + k)) := iold inv k k (by omega) (by omega) (by omega)
        have vl : w' (g ((i : Int) * 8 + k)) = w (g ((i : Int) * 8 + k)) := iold inv i k (by omega) (by omega) (by omega)
        refine bk_X4_clearColumn_20 lp.1 ⟨by constructor <;> omega, by constructor <;> omega, fun q => absurd q (by omega), fun _ => ⟨by constructor <;> omega, fun _ => ?_, fun q => absurd q (by omega)⟩⟩
        refine cell (by omega) (by omega) n.1 o ⟨hx6, fun _ => s0, fun _ => ⟨n.1, (n.wf la_20).s32, fun _ => s0, fun q1 => ⟨(n.wf lp.1).s32, fun _ => s0, fun q2 => ⟨ll.1, (n.wf ll.1).s32, fun _ => s0, fun q3 => ?_⟩⟩⟩⟩
        refine start 1 (Or.inr ⟨rfl, hxs τ w' n (i20 inv) q1, ?_, ?_⟩)
        · have := (n.low lp.1 q2).2
          rw [vp] at this; exact this
        · have := (n.low ll.1 q3).2
          rw [vl] at this; exact this
  refine bk_X4_clearColumn (cell (by omega) (by omega) h.1 Ou.rfl' ⟨h.1, c_lowest la_20 h.1 (h.wf la_20) ?_⟩)
  have w20 := h.wf la_20
  have d0 := w20.2.2.1 0 (by decide) (by decide)
  refine rowsL _ ?_ (fun τ w' n' e' q => ?_) (rows - f) f σ w (by omega) (Nat.le_refl _) (by omega) Ou.rfl' h ?_
  · rcases w20.2.2.2.2.2.1 with q | q | q <;> rw [q] <;> constructor <;> omega
  · have sz := h.sz la_20 (m := 1) (by have := (n'.low la_20 q).2; rw [e'] at this; exact this.1) (by have := (n'.low la_20 q).2; rw [e'] at this; exact this.2)
    exact (h.low la_20 (by omega)).1
  · rw [hI]
    refine ⟨fun i j i7 j8 => ?_, fun _ _ _ _ => rfl⟩
    rw [if_neg (by omega)]
