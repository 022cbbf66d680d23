theorem m_leftOut {X : ZS} {σ α : ZM} {T : Bool → ZM → Prop} {i : Int} (hi : r32 i) (ms : MS σ α) (ok : Ok α)
    (h0 : ¬ (α 0 2 ≠ -1 ∧ 0 ≤ i ∧ i < α 0 0 ∧ gd α (α 0 2) i) → ∀ σ', MS σ' α → Ou 211 229 σ σ' → T false σ')
    (h1 : α 0 2 ≠ -1 ∧ 0 ≤ i ∧ i < α 0 0 ∧ gd α (α 0 2) i → ∀ σ' u v, Ou 211 229 σ σ' → MS σ' (s_res α u v) → lowt (ofT α (α 0 2) i) (ofB α (α 0 2) i) u v → T true σ') : ZC X (rX12_leftOut zN) mX12_leftOut [(2, 211), (0, i)] zN σ (zQz T) := by
  have u := ok.u
  have L6 := ok.l
  have cm := ms.2.2.2.2.1
  have ms0 := ms
  obtain ⟨⟨v, nv, mv⟩, _, mg, mw, _⟩ := ms0
  refine bk_X12_leftOut (m_isSeen hi ms.2.2.1 ok (fun i0 i1 => ⟨fun q => (by cases q), fun _ => ?_⟩) (fun q => ⟨fun _ => h0 (fun w => q ⟨w.2.1, w.2.2.1⟩) σ ms Ou.rfl', fun q => (by cases q)⟩))
  rw [cm]
  refine ⟨by constructor <;> omega, fun q => h0 (fun w => w.1 q) σ ms Ou.rfl', fun q => ?_⟩
  refine m_isOff nv mg mw ok (by omega) u.2 i0 i1 (fun σ' w' o' n' k' ng => ⟨fun q => (by cases q), fun _ => h0 (fun w => ng w.2.2.2) σ' (ms.mw o' n' (k'.kp.mv mv)) o'.ou⟩) (fun σ' w' o' n' k' g E b1 b2 => ⟨fun _ => ?_, fun q => (by cases q)⟩)
  have p715 := pw7_15
  have p7 := pw_pos 7
  refine c_result (by decide) (by decide) (by decide) (by decide) n' (by omega) (by omega) E.1 (fun σ7 w7 o7 n7 e7 lt => ?_)
  have ms' : MS σ' α := ms.mw o' n' (k'.kp.mv mv)
  exact h1 ⟨q, i0, i1, g⟩ σ7 (w7 0) (w7 1) (o'.ou.trans o7.ou) (ms'.num o7 n7 ((k'.kp.mv mv).upd (fun j j0 j1 => e7 j (by omega) j1) rfl rfl)) (lowt_tr lt E.1 E.2.2)
def HM (w : Int → Int) (a b T B : Int) : Prop := (0 ≤ w a ∧ w a < pw 7) ∧ (0 < w b ∧ w b < pw 7) ∧ eqf (w a) (w b) (T.natAbs : Int) (B.natAbs : Int)
theorem cmp_m {w : Int → Int} {a b c e T B U C : Int} (h1 : HM w a b T B) (h2 : HM w c e U C) : (w c * w b < w a * w e) ↔ (U * B).natAbs < (T * C).natAbs := by
  have k := cmp_eq h1.2.2 h2.2.2
  have p1 : 0 ≤ w c * w b := Int.mul_nonneg h2.1.1 (by have := h1.2.1; omega)
  have p2 : 0 ≤ w a * w e := Int.mul_nonneg h1.1.1 (by have := h2.2.1; omega)
  rw [Int.natAbs_mul ((U.natAbs : Nat) : Int), Int.natAbs_mul ((T.natAbs : Nat) : Int), Int.natAbs_natCast, Int.natAbs_natCast, Int.natAbs_natCast, Int.natAbs_natCast, ← Int.natAbs_mul, ← Int.natAbs_mul] at k
  rw [← k]
  omega
theorem m_bare1 {X : ZS} {σ : ZM} {T : ZM → Prop} {v : Int → Int} {a : Int} (a0 : 0 ≤ a) (a1 : a < 132) (hN : NM σ v) (hlo : -pw 15 < v a) (h : ∀ σ', Mo σ σ' → NM σ' (fu v a ((v a).natAbs : Int)) → T σ') : ZC X (rX12_bare_ zN) mX12_bare_ [(2, 211), (0, a)] zN σ (zQv T) := by
  have ha := hN.2 a a0 a1
  refine bk_X12_bare_ (c_isBelow a0 a1 hN.1 ha.1 ?_)
  rw [ha.2]
  refine ⟨fun q => h σ Mo.rfl' (hN.congr (fun k k0 k1 => ?_)), fun q => c_turn a0 a1 hN hlo (fun σ' o' n' => h σ' o' (n'.congr (fun k k0 k1 => ?_)))⟩
  · have := of_decide_eq_false q
    by_cases e : k = a
    · subst e; rw [fu_s]; omega
    · rw [fu_n _ _ e]
  · have := of_decide_eq_true q
    by_cases e : k = a
    · subst e; rw [fu_s, fu_s]; omega
    · rw [fu_n _ _ e, fu_n _ _ e]
theorem m_isAbove {X : ZS} {σ : ZM} {T : Bool → ZM → Prop} {v : Int → Int} {a b c d T1 B1 T2 B2 : Int} (ra : 11 ≤ a ∧ a < 132) (rb : 11 ≤ b ∧ b < 132) (rc : 11 ≤ c ∧ c < 132) (rd : 11 ≤ d ∧ d < 132) (hN : NM σ v) (H1 : HM v a b T1 B1) (H2 : HM v c d T2 B2)
    (h : ∀ (r : Bool) σ' w', Mo σ σ' → NM σ' w' → (∀ k : Int, k ≠ 6 → k ≠ 7 → w' k = v k) → (r = true ↔ (T2 * B1).natAbs < (T1 * B2).natAbs) → T r σ') : ZC X (rX12_isAbove zN) mX12_isAbove [(2, 211), (0, a), (0, b), (0, c), (0, d)] zN σ (zQz T) := by
  have p14 : pw 7 * pw 7 < pw 15 := by unfold pw; decide +kernel
  have p7 := pw_pos 7
  have p715 := pw7_15
  have bd : ∀ x y : Int, 0 ≤ x → x < pw 7 → 0 ≤ y → y < pw 7 → 0 ≤ x * y ∧ x * y < pw 15 := fun x y x0 x1 y0 y1 => by
    have := Int.mul_le_mul (Int.le_of_lt x1) (Int.le_of_lt y1) y0 (by omega)
    exact ⟨Int.mul_nonneg x0 y0, by omega⟩
  have b1 := bd (v a) (v d) H1.1.1 H1.1.2 (by have := H2.2.1; omega) H2.2.1.2
  have b2 := bd (v c) (v b) H2.1.1 H2.1.2 (by have := H1.2.1; omega) H1.2.1.2
  have x1 := H1.1
  have x2 := H1.2.1
  have x3 := H2.1
  have x4 := H2.2.1
  refine bk_X12_isAbove (c_times (by decide) (by decide) (by omega) (by omega) (by omega) (by omega) hN (by omega) (by omega) (by omega) (by omega) (fun σ2 o2 n2 => ?_))
  have ec : fu v 6 (v a * v d) c = v c := fu_n _ _ (by omega)
  have eb : fu v 6 (v a * v d) b = v b := fu_n _ _ (by omega)
  refine c_times (by decide) (by decide) (by omega) (by omega) (by omega) (by omega) n2 (by rw [ec]; omega) (by rw [eb]; omega) (by rw [ec, eb]; omega) (by rw [ec, eb]; omega) (fun σ4 o4 n4 => ?_)
  rw [ec, eb] at n4
  have h7 := n4.2 7 (by decide) (by decide)
  have h6 := n4.2 6 (by decide) (by decide)
  refine c_isLess (by decide) (by decide) (by decide) (by decide) n4.1 h7.1 h6.1 ?_
  rw [h7.2, h6.2, fu_s, fu_n _ _ (by decide), fu_s]
  refine h _ σ4 _ (o2.trans o4) n4 (fun k k6 k7 => by rw [fu_n _ _ k7, fu_n _ _ k6]) ?_
  rw [decide_eq_true_iff]
  exact cmp_m H1 H2
def Kt (v w : Int → Int) : Prop := ∀ a : Int, ¬ (6 ≤ a ∧ a ≤ 14) → ¬ (20 ≤ a ∧ a < 110) → w a = v a
theorem Kt.rfl' {v : Int → Int} : Kt v v := fun _ _ _ => rfl
theorem Kt.trans {u v w : Int → Int} (h1 : Kt u v) (h2 : Kt v w) : Kt u w := fun a b c => (h2 a b c).trans (h1 a b c)
theorem Kt.ofR {v w : Int → Int} (h : Kr v w) : Kt v w := fun a b c => h a (by omega) c
theorem Kt.fu {v : Int → Int} {k x : Int} (h : 6 ≤ k ∧ k ≤ 14) : Kt v (fu v k x) := fun a b c => fu_n _ _ (by omega)
theorem Kt.kp {v w : Int → Int} (h : Kt v w) : Kp v w := ⟨fun k a b => h k (by omega) (by omega), h 0 (by decide) (by decide), h 1 (by decide) (by decide)⟩
theorem m_worst {X : ZS} {σ α : ZM} {T : Int → ZM → Prop} {v : Int → Int} {l : Int} (hN : NM σ v) (mg : MG σ α) (mw : MW σ α) (ok : Ok α) (l0 : 0 ≤ l) (l1 : l < α 0 1)
    (h : ∀ σ' w', Mw σ σ' → NM σ' w' → Kt v w' → (wres α l ≠ -1 → HM w' 13 14 (ofT α l (wres α l)) (ofB α l (wres α l))) → T (wres α l) σ') : ZC X (rX12_worst zN) mX12_worst [(2, 211), (0, l)] zN σ (zQi T) := by
  have s8 := ok.s
  have p7 := pw_pos 7
  have p715 := pw7_15
  have loop : ∀ (r i : Nat) (τ : ZM) (u : Int → Int), (i : Int) + r = α 0 0 → Mw σ τ → NM τ u → Kt v u → (∀ j : Int, 0 ≤ j → j < i → gd α l j) → (wf α l i ≠ -1 → HM u 13 14 (ofT α l (wf α l i)) (ofB α l (wf α l i))) → Z X (rX12_worst zN) mX12_worst 4 [(2, 211), (0, l), (0, wf α l i), (0, (i : Int))] [] zN τ (zQi T) := by
    intro r
    induction r with
    | zero =>
      intro i τ u hi o nm kt gds H
      have e4 : τ 211 4 = α 0 0 := (mg.mw o).1
      have wr := wf_r (α := α) (l := l) i
      have e : (α 0 0).toNat = i := by omega
      have w : wres α l = wf α l i := by rw [wres_1 ⟨by omega, fun j j0 j1 => gds j j0 (by omega)⟩, e]
      refine bk_X12_worst_4 ⟨by constructor <;> omega, by rw [e4]; constructor <;> omega, fun _ => ?_, fun q => absurd (by rw [e4]; omega) q⟩
      have := h τ u o nm kt (by rw [w]; exact H)
      rw [w] at this; exact this
    | succ r ih =>
      intro i τ u hi o nm kt gds H
      have e4 : τ 211 4 = α 0 0 := (mg.mw o).1
      have wr := wf_r (α := α) (l := l) i
      refine bk_X12_worst_4 ⟨by constructor <;> omega, by rw [e4]; constructor <;> omega, fun q => absurd q (by rw [e4]; omega), fun _ => ?_⟩
      refine m_isOff nm (mg.mw o) (mw.mw o) ok l0 l1 (by omega) (by omega) (fun σ4 w4 o4 n4 k4 ng => ⟨fun q => (by cases q), fun _ => ?_⟩) (fun σ4 w4 o4 n4 k4 g E b1 b2 => ⟨fun _ => ?_, fun q => (by cases q)⟩)
      · have w : wres α l = -1 := wres_0 (fun q => ng (q.2 i (by omega) (by omega)))
        have := h σ4 w4 (o.trans o4) n4 (kt.trans (Kt.ofR k4)) (fun q => absurd w q)
        rw [w] at this; exact this
      · refine m_bare1 (by decide) (by decide) n4 (by omega) (fun σ6 o6 n6 => m_bare1 (by decide) (by decide) n6 (by rw [fu_n _ _ (by decide)]; omega) (fun σ8 o8 n8 => ?_))
        rw [fu_n _ _ (show (12 : Int) ≠ 11 by decide)] at n8
        obtain ⟨w8, hw8⟩ : ∃ w8 : Int → Int, w8 = fu (fu w4 11 ((w4 11).natAbs : Int)) 12 ((w4 12).natAbs : Int) := ⟨_, rfl⟩
        rw [← hw8] at n8
        have a11 : w8 11 = ((w4 11).natAbs : Int) := by rw [hw8, fu_n _ _ (by decide), fu_s]
        have a12 : w8 12 = ((w4 12).natAbs : Int) := by rw [hw8, fu_s]
        have ao : ∀ a : Int, a ≠ 11 → a ≠ 12 → w8 a = w4 a := fun a h1 h2 => by rw [hw8, fu_n _ _ h2, fu_n _ _ h1]
        have o8' : Mw σ σ8 := ((o.trans o4).trans (Mw.ofO o6)).trans (Mw.ofO o8)
        have k8 : Kt v w8 := (kt.trans (Kt.ofR k4)).trans (fun a b c => ao a (by omega) (by omega))
        have HI : HM w8 11 12 (ofT α l i) (ofB α l i) := by
          have u0 := E.1
          have B0 := E.2.1
          have cr := natAbs_cross E
          unfold HM
          rw [a11, a12]
          refine ⟨by omega, by omega, by omega, by omega, ?_⟩
          rw [← Int.natCast_mul, ← Int.natCast_mul, cr]
        have gd' : ∀ j : Int, 0 ≤ j → j < ((i + 1 : Nat) : Int) → gd α l j := fun j j0 j1 => by
          by_cases e : j = i
          · subst e; exact g
          · exact gds j j0 (by omega)
        -- the one just seen becomes the worst
        have take : ∀ (τ' : ZM) (u' : Int → Int), wf α l (i + 1) = i → Mw σ τ' → NM τ' u' → Kt v u' → HM u' 11 12 (ofT α l i) (ofB α l i) → ZC X (rX12_copy zN) mX12_copy [(2, 211), (0, 13), (0, 11)] zN τ' (zQv (fun σ11 => ZC X (rX12_copy zN) mX12_copy [(2, 211), (0, 14), (0, 12)] zN σ11 (zQv (fun σ13 => Z X (rX12_worst zN) mX12_worst 4 [(2, 211), (0, l), (0, (i : Int)), (0, ((i : Int) + 1))] [] zN σ13 (zQi T))))) := fun τ' u' w ot nt ktt Ht => by
          refine c_copy (by decide) (by decide) (by decide) (by decide) nt (fun σ11 o11 n11 => c_copy (by decide) (by decide) (by decide) (by decide) n11 (fun σ13 o13 n13 => ?_))
          rw [fu_n _ _ (show (12 : Int) ≠ 13 by decide)] at n13
          have nx := ih (i + 1) σ13 _ (by omega) ((ot.trans (Mw.ofO o11)).trans (Mw.ofO o13)) n13 ((ktt.trans (Kt.fu (by decide))).trans (Kt.fu (by decide))) gd' (fun _ => by
            rw [w]
            unfold HM at Ht ⊢
            rw [fu_n _ _ (show (13 : Int) ≠ 14 by decide), fu_s, fu_s]; exact Ht)
          rw [w] at nx; exact nx
        refine ⟨by constructor <;> omega, fun q => take σ8 w8 (by rw [wf_s, if_pos (Or.inl q)]) o8' n8 k8 HI, fun q => ?_⟩
        have HF8 : HM w8 13 14 (ofT α l (wf α l i)) (ofB α l (wf α l i)) := by
          have := H q
          unfold HM at this ⊢
          rw [ao 13 (by decide) (by decide), ao 14 (by decide) (by decide), k4 13 (by decide) (by decide), k4 14 (by decide) (by decide)]; exact this
        refine m_isAbove (by decide) (by decide) (by decide) (by decide) n8 HI HF8 (fun b σ15 w15 o15 n15 e15 eb => ⟨fun qb => ?_, fun qb => ?_⟩)
        · have w : wf α l (i + 1) = wf α l i := by
            rw [wf_s, if_neg (fun w => w.elim q (fun w => by rw [eb.mpr w] at qb; cases qb))]
          have nx := ih (i + 1) σ15 w15 (by omega) (o8'.trans (Mw.ofO o15)) n15 (k8.trans (fun a b c => e15 a (by omega) (by omega))) gd' (fun _ => by
            rw [w]
            unfold HM at HF8 ⊢
            rw [e15 13 (by decide) (by decide), e15 14 (by decide) (by decide)]; exact HF8)
          rw [w] at nx; exact nx
        · refine take σ15 w15 (by rw [wf_s, if_pos (Or.inr (eb.mp qb))]) (o8'.trans (Mw.ofO o15)) n15 (k8.trans (fun a b c => e15 a (by omega) (by omega))) ?_
          unfold HM at HI ⊢
          rw [e15 11 (by decide) (by decide), e15 12 (by decide) (by decide)]; exact HI
  have L := loop (α 0 0).toNat 0 σ v (by omega) Mw.rfl' hN Kt.rfl' (fun j _ _ => by omega) (fun q => absurd (by rw [wf]) q)
  rw [wf] at L
  exact bk_X12_worst L
theorem m_worst0 {X : ZS} {σ α : ZM} {T : Int → ZM → Prop} (ms : MS σ α) (ok : Ok α) (h : ∀ σ', MS σ' α → Ou 211 229 σ σ' → T (wres α (α 0 2)) σ') : ZC X (rX12_worst_ zN) mX12_worst_ [(2, 211)] zN σ (zQi T) := by
  have u := ok.u
  have L6 := ok.l
  have cm := ms.2.2.2.2.1
  have ms0 := ms
  obtain ⟨⟨v, nv, mv⟩, _, mg, mw, _⟩ := ms0
  refine bk_X12_worst_ ?_
  rw [cm]
  refine ⟨by constructor <;> omega, fun q => m_worst nv mg mw ok (by omega) u.2 (fun σ' w' o' n' k' _ => h σ' (ms.mw o' n' (k'.kp.mv mv)) o'.ou), fun q => ?_⟩
  have := h σ ms Ou.rfl'
  rw [wres_0 (fun w => w.1 q)] at this; exact this
theorem m_best {X : ZS} {σ α : ZM} {T : Int → ZM → Prop} (ms : MS σ α) (ok : Ok α) (h : ∀ σ', MS σ' α → Ou 211 229 σ σ' → T (bs α (α 0 1).toNat) σ') : ZC X (rX12_best zN) mX12_best [(2, 211)] zN σ (zQi T) := by
  have l6 := ok.l
  have ms0 := ms
  obtain ⟨⟨v, nv, mv⟩, _, mg, mw, _⟩ := ms0
  have loop : ∀ (r l : Nat) (τ : ZM) (u : Int → Int), (l : Int) + r = α 0 1 → Mw σ τ → NM τ u → Kp v u → (bs α l ≠ -1 → HM u 15 16 (ofT α (bs α l) (wres α (bs α l))) (ofB α (bs α l) (wres α (bs α l)))) → Z X (rX12_best zN) mX12_best 4 [(2, 211), (0, bs α l), (0, (l : Int))] [] zN τ (zQi T) := by
    intro r
    induction r with
    | zero =>
      intro l τ u hl o nm kp H
      have e : (α 0 1).toNat = l := by omega
      have w := (mw.mw o).1
      rw [e] at h
      exact bk_X12_best_4 ⟨by constructor <;> omega, by rw [w]; constructor <;> omega, fun _ => h τ (ms.mw o nm (kp.mv mv)) o.ou, fun q => absurd (by rw [w]; omega) q⟩
    | succ r ih =>
      intro l τ u hl o nm kp H
      have w := (mw.mw o).1
      have br := bs_r (α := α) l
      have wr := wres_r (l := l) ok
      refine bk_X12_best_4 ⟨by constructor <;> omega, by rw [w]; constructor <;> omega, fun q => absurd q (by rw [w]; omega), fun _ => m_worst nm (mg.mw o) (mw.mw o) ok (by omega) (by omega) (fun σ4 w4 o4 n4 k4 H4 => ⟨by constructor <;> omega, fun nw => ?_, fun nw => ?_⟩)⟩
      · have o4' := o.trans o4
        have kp4 := kp.trans k4.kp
        have take : ∀ (τ' : ZM) (u' : Int → Int), bs α (l + 1) = l → Mw σ τ' → NM τ' u' → Kp v u' → HM u' 13 14 (ofT α l (wres α l)) (ofB α l (wres α l)) → ZC X (rX12_copy zN) mX12_copy [(2, 211), (0, 15), (0, 13)] zN τ' (zQv (fun σ8 => ZC X (rX12_copy zN) mX12_copy [(2, 211), (0, 16), (0, 14)] zN σ8 (zQv (fun σ10 => Z X (rX12_best zN) mX12_best 4 [(2, 211), (0, (l : Int)), (0, ((l : Int) + 1))] [] zN σ10 (zQi T))))) := fun τ' u' e ot nt kt Ht => by
          refine c_copy (by decide) (by decide) (by decide) (by decide) nt (fun σ11 o11 n11 => c_copy (by decide) (by decide) (by decide) (by decide) n11 (fun σ13 o13 n13 => ?_))
          rw [fu_n _ _ (show (14 : Int) ≠ 15 by decide)] at n13
          have nx := ih (l + 1) σ13 _ (by omega) ((ot.trans (Mw.ofO o11)).trans (Mw.ofO o13)) n13 ((kt.trans (Kp.fu (by decide) (by decide))).trans (Kp.fu (by decide) (by decide))) (fun _ => by
            rw [e]
            unfold HM at Ht ⊢
            rw [fu_n _ _ (show (15 : Int) ≠ 16 by decide), fu_s, fu_s]; exact Ht)
          rw [e] at nx; exact nx
        refine ⟨by constructor <;> omega, fun q => take σ4 w4 (by rw [bs_s, if_neg nw, if_pos (Or.inl q)]) o4' n4 kp4 (H4 nw), fun q => ?_⟩
        have HL : HM w4 15 16 (ofT α (bs α l) (wres α (bs α l))) (ofB α (bs α l) (wres α (bs α l))) := by
          have := H q
          unfold HM at this ⊢
          rw [k4 15 (by decide) (by decide), k4 16 (by decide) (by decide)]; exact this
        refine m_isAbove (by decide) (by decide) (by decide) (by decide) n4 HL (H4 nw) (fun b σ12 w12 o12 n12 e12 eb => ⟨fun qb => ?_, fun qb => ?_⟩)
        · have e : bs α (l + 1) = bs α l := by
            rw [bs_s, if_neg nw, if_neg (fun w => w.elim q (fun w => by rw [eb.mpr w] at qb; cases qb))]
          have nx := ih (l + 1) σ12 w12 (by omega) (o4'.trans (Mw.ofO o12)) n12 (kp4.trans ⟨fun k a b => e12 k (by omega) (by omega), e12 0 (by decide) (by decide), e12 1 (by decide) (by decide)⟩) (fun _ => by
            rw [e]
            unfold HM at HL ⊢
            rw [e12 15 (by decide) (by decide), e12 16 (by decide) (by decide)]; exact HL)
          rw [e] at nx; exact nx
        · refine take σ12 w12 (by rw [bs_s, if_neg nw, if_pos (Or.inr (eb.mp qb))]) (o4'.trans (Mw.ofO o12)) n12 (kp4.trans ⟨fun k a b => e12 k (by omega) (by omega), e12 0 (by decide) (by decide), e12 1 (by decide) (by decide)⟩) ?_
          have := H4 nw
          unfold HM at this ⊢
          rw [e12 13 (by decide) (by decide), e12 14 (by decide) (by decide)]; exact this
      · have e : bs α (l + 1) = bs α l := by rw [bs_s, if_pos nw]
        have nx := ih (l + 1) σ4 w4 (by omega) (o.trans o4) n4 (kp.trans k4.kp) (fun q => by
          rw [e] at q ⊢
          have := H q
          unfold HM at this ⊢
          rw [k4 15 (by decide) (by decide), k4 16 (by decide) (by decide)]; exact this)
        rw [e] at nx; exact nx
  have L := loop (α 0 1).toNat 0 σ v (by omega) Mw.rfl' nv Kp.rfl' (fun q => absurd (by rw [bs]) q)
  rw [bs] at L
  exact bk_X12_best L
