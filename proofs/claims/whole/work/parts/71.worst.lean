noncomputable def wf (α : ZM) (l : Int) : Nat → Int
  | 0 => -1
  | i + 1 => if wf α l i = -1 ∨ (ofT α l (wf α l i) * ofB α l i).natAbs < (ofT α l i * ofB α l (wf α l i)).natAbs then (i : Int) else wf α l i
theorem wf_s (α : ZM) (l : Int) (i : Nat) : wf α l (i + 1) = if wf α l i = -1 ∨ (ofT α l (wf α l i) * ofB α l i).natAbs < (ofT α l i * ofB α l (wf α l i)).natAbs then (i : Int) else wf α l i := by rw [wf]
theorem wf_r {α : ZM} {l : Int} : ∀ i : Nat, -1 ≤ wf α l i ∧ wf α l i < i
  | 0 => by rw [wf]; decide
  | i + 1 => by
    have := wf_r (α := α) (l := l) i
    rw [wf_s]
    split <;> omega
def allgd (α : ZM) (l : Int) : Prop := ∀ i : Int, 0 ≤ i → i < α 0 0 → gd α l i
noncomputable def wres (α : ZM) (l : Int) : Int := @ite Int (l ≠ -1 ∧ allgd α l) (Classical.propDecidable _) (wf α l (α 0 0).toNat) (-1)
theorem wres_1 {α : ZM} {l : Int} (h : l ≠ -1 ∧ allgd α l) : wres α l = wf α l (α 0 0).toNat := by unfold wres; rw [if_pos h]
theorem wres_0 {α : ZM} {l : Int} (h : ¬ (l ≠ -1 ∧ allgd α l)) : wres α l = -1 := by unfold wres; rw [if_neg h]
def Fw (σ σ' : ZM) : Prop := ∀ c : Int, c < 8 ∨ (140 < c ∧ c < 170) ∨ (178 < c ∧ c < 184) ∨ 193 < c → σ' c = σ c
theorem Fw.trans {σ σ1 σ2 : ZM} (h1 : Fw σ σ1) (h2 : Fw σ1 σ2) : Fw σ σ2 := fun c h => (h2 c h).trans (h1 c h)
theorem Fw.ou {σ σ' : ZM} (h : Fw σ σ') : Ou 1 210 σ σ' := fun c hc => h c (by omega)
theorem CS.fw {σ σ' α : ZM} (h : CS σ α) (b : CB σ') (o : Fw σ σ') : CS σ' α := h.tmp b (fun c hc => o c (by have := h.2.2.1.1; omega))
theorem WF.szl {σ : ZM} {a : Int} (h : WF σ a) {m : Nat} (h1 : -pw m < wv σ a) (h2 : wv σ a < pw m) : σ a 1 ≤ m := by
  apply Classical.byContradiction
  intro q
  have g := h.ge (m := m) (by omega)
  have e := h.abs
  omega
theorem CB.of {σ σ' : ZM} (b : CB σ) (f : Fix σ') (A : AW σ') (e17 : σ' 17 = σ 17) (e142 : σ' 142 = σ 142) : CB σ' := ⟨f, A, by rw [e17]; exact b.2.2.1, by rw [e142]; exact b.2.2.2⟩
/-- a fraction held in cell p, and how large it can be -/
def HF (σ : ZM) (p T B : Int) : Prop := eqf (wv σ (p + 1)) (wv σ (p + 3)) T B ∧ (-pw 6 < wv σ (p + 1) ∧ wv σ (p + 1) < pw 6) ∧ (-pw 5 < wv σ (p + 3) ∧ wv σ (p + 3) < pw 5)
theorem HF.fr {σ σ' : ZM} {p T B : Int} (h : HF σ p T B) (o : ∀ c : Int, p + 1 ≤ c → c ≤ p + 4 → σ' c = σ c) : HF σ' p T B := by
  unfold HF at h ⊢
  rw [wv_fr (o (p + 1) (by omega) (by omega)) (o (p + 1 + 1) (by omega) (by omega)), wv_fr (o (p + 3) (by omega) (by omega)) (o (p + 3 + 1) (by omega) (by omega))]
  exact h
theorem b_isLarger {X : ZS} {σ α : ZM} {T : Bool → ZM → Prop} {p q T1 B1 T2 B2 : Int} (cs : CS σ α) (hp : z_l p = (3, 2)) (hq : z_l q = (3, 2)) (n1 : p ≠ 172) (n2 : q ≠ 172) (H1 : HF σ p T1 B1) (H2 : HF σ q T2 B2)
    (h : ∀ (b : Bool) σ', CS σ' α → Ou 173 176 σ σ' → (b = true ↔ (T2 * B1).natAbs < (T1 * B2).natAbs) → T b σ') : ZC X (rX10_isLarger zN) mX10_isLarger [(2, 169), (2, p), (2, q)] zN σ (zQz T) := by
  have A := cs.1.2.1
  have w1 := (A _ (zo_3_0 hp)).szl H1.2.1.1 H1.2.1.2
  have w2 := (A _ (zo_3_1 hq)).szl H2.2.2.1 H2.2.2.2
  have w3 := (A _ (zo_3_0 hq)).szl H2.2.1.1 H2.2.1.2
  have w4 := (A _ (zo_3_1 hp)).szl H1.2.2.1 H1.2.2.2
  refine c_isLarger hp hq n1 n2 cs.fix A (by omega) (by omega) (fun b σ' f' A' o' e => h b σ' ?_ o' (e.trans (cmp_eq H1.1 H2.1)))
  exact cs.tmp (cs.1.of f' A' (o' 17 (by decide)) (o' 142 (by decide))) (fun c hc => o' c (by have := cs.2.2.1.1; omega))
theorem b_fcopy {X : ZS} {σ α : ZM} {T : ZM → Prop} {p q T1 B1 : Int} (cs : CS σ α) (hp : z_l p = (3, 2)) (hq : z_l q = (3, 2)) (hpq : q < p ∨ p + 4 < q) (hqp : q + 4 < p ∨ p < q) (hr : 184 ≤ p ∧ p ≤ 194) (H : HF σ q T1 B1)
    (h : ∀ σ', CS σ' α → Ou (p + 1) (p + 4) σ σ' → HF σ' p T1 B1 → T σ') : ZC X (rX3_copyFrom zN) mX3_copyFrom [(2, p), (2, q)] zN σ (zQv T) := by
  refine c_fcopy hp hq hpq hqp cs.fix cs.1.2.1 (fun σ' f' A' o' e1 e2 => h σ' ?_ o' ?_)
  · exact cs.tmp (cs.1.of f' A' (o' 17 (by omega)) (o' 142 (by omega))) (fun c hc => o' c (by have := cs.2.2.1.1; omega))
  · unfold HF at H ⊢
    rw [e1, e2]; exact H
theorem b_findWorst {X : ZS} {σ α : ZM} {T : Int → ZM → Prop} {l : Int} (hl : -1 ≤ l) (hl1 : l < α 0 1) (cs : CS σ α) (ok : Ok α)
    (h : ∀ σ', CS σ' α → Fw σ σ' → (wres α l ≠ -1 → HF σ' 189 (ofT α l (wres α l)) (ofB α l (wres α l))) → T (wres α l) σ') : ZC X (rX11_findWorst zN) mX11_findWorst [(2, 1), (0, l)] zN σ (zQi T) := by
  have s8 := ok.s
  have loop : ∀ (r i : Nat) (τ : ZM), (i : Int) + r = α 0 0 → CS τ α → Fw σ τ → (∀ j : Int, 0 ≤ j → j < i → l ≠ -1 ∧ gd α l j) → (wf α l i ≠ -1 → HF τ 189 (ofT α l (wf α l i)) (ofB α l (wf α l i))) → Z X (rX11_findWorst zN) mX11_findWorst 4 [(2, 1), (0, l), (0, wf α l i), (0, (i : Int))] [] zN τ (zQi T) := by
    intro r
    induction r with
    | zero =>
      intro i τ hi c fw gds H
      have pl := c.2.2.1.pl ok
      have gz := c.2.2.1.2.1
      have wr := wf_r (α := α) (l := l) i
      have e : (α 0 0).toNat = i := by omega
      refine bk_X11_findWorst_4 ⟨pl.1, c.fix, by constructor <;> omega, by rw [gz]; constructor <;> omega, fun _ => ?_, fun q => absurd (by rw [gz]; omega) q⟩
      by_cases i0 : i = 0
      · subst i0
        have w : wres α l = -1 := by
          by_cases q : l ≠ -1 ∧ allgd α l
          · rw [wres_1 q, e, wf]
          · exact wres_0 q
        have := h τ c fw (fun q => absurd w q)
        rw [w] at this
        rw [wf]; exact this
      · have w : wres α l = wf α l i := by
          rw [wres_1 ⟨(gds 0 (by omega) (by omega)).1, fun j j0 j1 => (gds j j0 (by omega)).2⟩, e]
        have := h τ c fw (by rw [w]; exact H)
        rw [w] at this
        exact this
    | succ r ih =>
      intro i τ hi c fw gds H
      have pl := c.2.2.1.pl ok
      have gz := c.2.2.1.2.1
      have wr := wf_r (α := α) (l := l) i
      refine bk_X11_findWorst_4 ⟨pl.1, c.fix, by constructor <;> omega, by rw [gz]; constructor <;> omega, fun q => absurd q (by rw [gz]; omega), fun _ => ?_⟩
      refine b_leaveOut hl hl1 (by constructor <;> omega) c ok (fun σ6 c6 f6 nb => ⟨fun q => (by cases q), fun _ => ?_⟩) (fun σ6 c6 f6 l0 i0 i1 g E b1 b2 => ⟨fun _ => ⟨by constructor <;> omega, fun q => ⟨c6.fix, ?_⟩, fun q => ⟨c6.fix, ?_⟩⟩, fun q => (by cases q)⟩)
      · have fw6 : Fw σ σ6 := fw.trans (fun cc hc => f6 cc (by omega))
        have w : wres α l = -1 := wres_0 (fun q => nb ⟨q.1, by omega, by omega, q.2 i (by omega) (by omega)⟩)
        have := h σ6 c6 fw6 (fun q => absurd w q)
        rw [w] at this; exact this
      · have fw6 : Fw σ σ6 := fw.trans (fun cc hc => f6 cc (by omega))
        have w : wf α l (i + 1) = i := by rw [wf_s, if_pos (Or.inl q)]
        refine b_fcopy (p := 189) (q := 184) (T1 := ofT α l i) (B1 := ofB α l i) c6 la_189 la_184 (by decide) (by decide) (by decide) ⟨E, b1, b2⟩ (fun σ10 c10 o10 H10 => ?_)
        have nx := ih (i + 1) σ10 (by omega) c10 (fw6.trans (fun cc hc => o10 cc (by omega))) (fun j j0 j1 => by
          by_cases e : j = i
          · subst e; exact ⟨l0, g⟩
          · exact gds j j0 (by omega)) (fun _ => by rw [w]; exact H10)
        rw [w] at nx; exact nx
      · have fw6 : Fw σ σ6 := fw.trans (fun cc hc => f6 cc (by omega))
        have H6 : HF σ6 189 (ofT α l (wf α l i)) (ofB α l (wf α l i)) := (H q).fr (fun cc h1 h2 => f6 cc (by omega))
        have gd' : ∀ j : Int, 0 ≤ j → j < ((i + 1 : Nat) : Int) → l ≠ -1 ∧ gd α l j := fun j j0 j1 => by
          by_cases e : j = i
          · subst e; exact ⟨l0, g⟩
          · exact gds j j0 (by omega)
        refine b_isLarger (p := 184) (q := 189) (T1 := ofT α l i) (B1 := ofB α l i) c6 la_184 la_189 (by decide) (by decide) ⟨E, b1, b2⟩ H6 (fun b σ13 c13 o13 eb => ⟨fun qb => ?_, fun qb => ⟨c13.fix, ?_⟩⟩)
        · have w : wf α l (i + 1) = wf α l i := by
            rw [wf_s, if_neg (fun w => w.elim q (fun w => by rw [eb.mpr w] at qb; cases qb))]
          have nx := ih (i + 1) σ13 (by omega) c13 (fw6.trans (fun cc hc => o13 cc (by omega))) gd' (fun _ => by rw [w]; exact H6.fr (fun cc h1 h2 => o13 cc (by omega)))
          rw [w] at nx; exact nx
        · have w : wf α l (i + 1) = i := by rw [wf_s, if_pos (Or.inr (eb.mp qb))]
          have HO : HF σ13 184 (ofT α l i) (ofB α l i) := HF.fr (σ := σ6) ⟨E, b1, b2⟩ (fun cc h1 h2 => o13 cc (by omega))
          refine b_fcopy (p := 189) (q := 184) (T1 := ofT α l i) (B1 := ofB α l i) c13 la_189 la_184 (by decide) (by decide) (by decide) HO (fun σ16 c16 o16 H16 => ?_)
          have nx := ih (i + 1) σ16 (by omega) c16 ((fw6.trans (fun cc hc => o13 cc (by omega))).trans (fun cc hc => o16 cc (by omega))) gd' (fun _ => by rw [w]; exact H16)
          rw [w] at nx; exact nx
  have L := loop (α 0 0).toNat 0 σ (by omega) cs (fun _ _ => rfl) (fun j _ _ => by omega) (fun q => absurd (by rw [wf]) q)
  rw [wf] at L
  exact bk_X11_findWorst L
theorem b_worst {X : ZS} {σ α : ZM} {T : Int → ZM → Prop} (cs : CS σ α) (ok : Ok α) (h : ∀ σ', CS σ' α → Ou 1 210 σ σ' → T (wres α (α 0 2)) σ') : ZC X (rX11_worst zN) mX11_worst [(2, 1)] zN σ (zQi T) := by
  have cm := cs.2.2.2.2.1.1
  have u := ok.u
  refine bk_X11_worst ?_
  rw [cm]
  exact b_findWorst u.1 u.2 cs ok (fun σ' c' f' _ => h σ' c' f'.ou)
theorem b_leftOut {X : ZS} {σ α : ZM} {T : Bool → ZM → Prop} {i : Int} (hi : r32 i) (cs : CS σ α) (ok : Ok α)
    (h0 : ¬ (α 0 2 ≠ -1 ∧ 0 ≤ i ∧ i < α 0 0 ∧ gd α (α 0 2) i) → ∀ σ', CS σ' α → Ou 1 210 σ σ' → T false σ')
    (h1 : α 0 2 ≠ -1 ∧ 0 ≤ i ∧ i < α 0 0 ∧ gd α (α 0 2) i → ofB α (α 0 2) i ≠ 0 → ∀ σ' u v, Ou 1 210 σ σ' → CS σ' (s_res α u v) → lowt (ofT α (α 0 2) i) (ofB α (α 0 2) i) u v → T true σ') : ZC X (rX11_leftOut zN) mX11_leftOut [(2, 1), (0, i)] zN σ (zQz T) := by
  have cm := cs.2.2.2.2.1.1
  have u := ok.u
  refine bk_X11_leftOut ?_
  rw [cm]
  refine b_leaveOut u.1 u.2 hi cs ok (fun σ' c' f' nb => ⟨fun _ => h0 nb σ' c' f'.ou, fun q => (by cases q)⟩) (fun σ' c' f' l0 i0 i1 g E b1 b2 => ⟨fun q => (by cases q), fun _ => ⟨c'.fix, ?_⟩⟩)
  refine b_setRes la_185 la_187 (by decide) (by decide) c' E.1 (fun σ2 x y o2 c2 lt => ⟨fun q => (by cases q), fun _ => h1 ⟨l0, i0, i1, g⟩ E.2.1 σ2 x y (f'.ou.trans o2) c2 (lowt_tr lt E.1 E.2.2)⟩)
noncomputable def bs (α : ZM) : Nat → Int
  | 0 => -1
  | l + 1 => if wres α l = -1 then bs α l else if bs α l = -1 ∨ (ofT α l (wres α l) * ofB α (bs α l) (wres α (bs α l))).natAbs < (ofT α (bs α l) (wres α (bs α l)) * ofB α l (wres α l)).natAbs then (l : Int) else bs α l
theorem bs_s (α : ZM) (l : Nat) : bs α (l + 1) = if wres α l = -1 then bs α l else if bs α l = -1 ∨ (ofT α l (wres α l) * ofB α (bs α l) (wres α (bs α l))).natAbs < (ofT α (bs α l) (wres α (bs α l)) * ofB α l (wres α l)).natAbs then (l : Int) else bs α l := by rw [bs]
theorem bs_r {α : ZM} : ∀ l : Nat, -1 ≤ bs α l ∧ bs α l < l
  | 0 => by rw [bs]; decide
  | l + 1 => by
    have := bs_r (α := α) l
    rw [bs_s]
    split
    · omega
    · split <;> omega
theorem wres_r {α : ZM} {l : Int} (ok : Ok α) : -1 ≤ wres α l ∧ wres α l < 8 := by
  have s8 := ok.s
  by_cases q : l ≠ -1 ∧ allgd α l
  · rw [wres_1 q]
    have := wf_r (α := α) (l := l) (α 0 0).toNat
    omega
  · rw [wres_0 q]; decide
theorem b_best {X : ZS} {σ α : ZM} {T : Int → ZM → Prop} (cs : CS σ α) (ok : Ok α) (h : ∀ σ', CS σ' α → Ou 1 210 σ σ' → T (bs α (α 0 1).toNat) σ') : ZC X (rX11_best zN) mX11_best [(2, 1)] zN σ (zQi T) := by
  have l6 := ok.l
  have loop : ∀ (r l : Nat) (τ : ZM), (l : Int) + r = α 0 1 → CS τ α → Ou 1 210 σ τ → (bs α l ≠ -1 → HF τ 194 (ofT α (bs α l) (wres α (bs α l))) (ofB α (bs α l) (wres α (bs α l)))) → Z X (rX11_best zN) mX11_best 4 [(2, 1), (0, bs α l), (0, (l : Int))] [] zN τ (zQi T) := by
    intro r
    induction r with
    | zero =>
      intro l τ hl c o H
      have e : (α 0 1).toNat = l := by omega
      have w := c.2.2.2.1.1
      rw [e] at h
      exact bk_X11_best_4 ⟨c.fix, by constructor <;> omega, by rw [w]; constructor <;> omega, fun _ => h τ c o, fun q => absurd (by rw [w]; omega) q⟩
    | succ r ih =>
      intro l τ hl c o H
      have w := c.2.2.2.1.1
      have br := bs_r (α := α) l
      have wr := wres_r (l := l) ok
      refine bk_X11_best_4 ⟨c.fix, by constructor <;> omega, by rw [w]; constructor <;> omega, fun q => absurd q (by rw [w]; omega), fun _ => b_findWorst (by omega) (by omega) c ok (fun σ5 c5 f5 H5 => ⟨by constructor <;> omega, fun nw => ⟨by constructor <;> omega, fun q => ⟨c5.fix, ?_⟩, fun q => ⟨c5.fix, ?_⟩⟩, fun nw => ?_⟩)⟩
      · have e : bs α (l + 1) = l := by rw [bs_s, if_neg nw, if_pos (Or.inl q)]
        refine b_fcopy (p := 194) (q := 189) c5 la_194 la_189 (by decide) (by decide) (by decide) (H5 nw) (fun σ10 c10 o10 H10 => ?_)
        have nx := ih (l + 1) σ10 (by omega) c10 ((o.trans f5.ou).trans (o10.mono (by decide) (by decide))) (fun _ => by rw [e]; exact H10)
        rw [e] at nx; exact nx
      · have HL : HF σ5 194 (ofT α (bs α l) (wres α (bs α l))) (ofB α (bs α l) (wres α (bs α l))) := (H q).fr (fun cc h1 h2 => f5 cc (by omega))
        refine b_isLarger (p := 194) (q := 189) c5 la_194 la_189 (by decide) (by decide) HL (H5 nw) (fun b σ13 c13 o13 eb => ⟨fun qb => ?_, fun qb => ⟨c13.fix, ?_⟩⟩)
        · have e : bs α (l + 1) = bs α l := by
            rw [bs_s, if_neg nw, if_neg (fun w => w.elim q (fun w => by rw [eb.mpr w] at qb; cases qb))]
          have nx := ih (l + 1) σ13 (by omega) c13 ((o.trans f5.ou).trans (o13.mono (by decide) (by decide))) (fun _ => by rw [e]; exact HL.fr (fun cc h1 h2 => o13 cc (by omega)))
          rw [e] at nx; exact nx
        · have e : bs α (l + 1) = l := by rw [bs_s, if_neg nw, if_pos (Or.inr (eb.mp qb))]
          refine b_fcopy (p := 194) (q := 189) c13 la_194 la_189 (by decide) (by decide) (by decide) ((H5 nw).fr (fun cc h1 h2 => o13 cc (by omega))) (fun σ16 c16 o16 H16 => ?_)
          have nx := ih (l + 1) σ16 (by omega) c16 (((o.trans f5.ou).trans (o13.mono (by decide) (by decide))).trans (o16.mono (by decide) (by decide))) (fun _ => by rw [e]; exact H16)
          rw [e] at nx; exact nx
      · have e : bs α (l + 1) = bs α l := by rw [bs_s, if_pos nw]
        have nx := ih (l + 1) σ5 (by omega) c5 (o.trans f5.ou) (fun q => by rw [e] at q ⊢; exact (H q).fr (fun cc h1 h2 => f5 cc (by omega)))
        rw [e] at nx; exact nx
  have L := loop (α 0 1).toNat 0 σ (by omega) cs Ou.rfl' (fun q => absurd (by rw [bs]) q)
  rw [bs] at L
  exact bk_X11_best L
