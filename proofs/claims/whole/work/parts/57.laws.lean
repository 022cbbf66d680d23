theorem m_told {X : ZS} {σ α : ZM} {T : Int → ZM → Prop} {i w : Int} (hi : r32 i) (hw : r32 w) (ms : MS σ α) (ok : Ok α) (h : T (o_told α i w) σ) : ZC X (rX12_told_ zN) mX12_told_ [(2, 211), (0, i), (0, w)] zN σ (zQi T) := by
  have hf := ms.fix
  have s8 := ok.s
  obtain ⟨g2, g3⟩ := ms.2.2.1
  unfold o_told at h
  refine bk_X12_told_ (m_isSeen hi ms.2.2.1 ok (fun i0 i1 => ⟨fun q => (by cases q), fun _ => ?_⟩) (fun q => ⟨fun _ => (by rw [if_neg q] at h; exact h), fun q => (by cases q)⟩))
  have gi := g3 i i0 i1
  rw [if_pos ⟨i0, i1⟩] at h
  refine ⟨hw, fun q => ?_, fun q => ⟨fun q3 => ⟨fun w0 => ⟨fun w1 => ⟨fun w2 => ⟨hf, i0, by omega, ?_⟩, fun w2 => ⟨hf, i0, by omega, ?_⟩⟩, fun w1 => ⟨hf, i0, by omega, ?_⟩⟩, fun w0 => ⟨hf, i0, by omega, ?_⟩⟩, fun q3 => ?_⟩⟩
  · rw [if_neg (by omega), if_neg (by omega), if_neg (by omega), if_neg (by omega)] at h; exact h
  · rw [if_neg w0, if_neg w1, if_neg w2, if_pos (by omega)] at h; rw [gi.2.2.2]; exact h
  · rw [if_neg w0, if_neg w1, if_pos w2] at h; rw [gi.2.2.1]; exact h
  · rw [if_neg w0, if_pos w1] at h; rw [gi.2.1]; exact h
  · rw [if_pos w0] at h; rw [gi.1]; exact h
  · rw [if_neg (by omega), if_neg (by omega), if_neg (by omega), if_neg (by omega)] at h; exact h
/-! use, nearest -/
def o_use (α : ZM) (l : Int) : Bool := decide (l = -1 ∨ 0 ≤ l ∧ l < α 0 1)
def s_use (α : ZM) (l : Int) : ZM := if o_use α l then rp α 0 (fu (fu (α 0) 2 l) 4 0) else α
def o_near (k : Int) : Bool := decide (1 ≤ k ∧ k ≤ 8)
def s_near (α : ZM) (k : Int) : ZM := if o_near k then rp α 0 (fu (α 0) 3 k) else α
theorem ok_use {α : ZM} {l : Int} (ok : Ok α) : Ok (s_use α l) := by
  unfold s_use
  split
  · rename_i h
    have h := of_decide_eq_true h
    have := ok.l
    exact ⟨ok.s, ok.l, (by show -1 ≤ l ∧ l < α 0 1; omega), ok.n, Or.inl rfl, ok.g, ok.w, ok.e, ok.r⟩
  · exact ok
theorem ok_near {α : ZM} {k : Int} (ok : Ok α) : Ok (s_near α k) := by
  unfold s_near
  split
  · rename_i h
    exact ⟨ok.s, ok.l, ok.u, of_decide_eq_true h, ok.h, ok.g, ok.w, ok.e, ok.r⟩
  · exact ok
/-- fields of the board and whether an answer is there -/
theorem CS.flds {σ σ' α : ZM} {f : Int → Int} (h : CS σ α) (hf : Fix σ') (o : ∀ c : Int, c ≠ 1 → c ≠ 141 → σ' c = σ c) (h11 : σ' 1 11 = σ 1 11) (h12 : σ' 1 12 = σ 1 12) (m : CM σ' (rp α 0 f)) (f0 : f 0 = α 0 0) (f1 : f 1 = α 0 1) (a : CA σ' (rp α 0 f)) : CS σ' (rp α 0 f) := by
  obtain ⟨b, l, g, w, _, _, r⟩ := h
  exact ⟨b.fr hf (fun c _ _ hc => o c (by omega) hc), l.fr (o 3 (by decide) (by decide)) (o 4 (by decide) (by decide)) (o 5 (by decide) (by decide)) rfl rfl rfl, g.fr h11 h12 (fun c _ _ => o c (by have := g.1; omega) (by have := g.1; omega)) f0 rfl rfl rfl rfl, w.fr (by rw [o 6 (by decide) (by decide)]) (o 7 (by decide) (by decide)) f1 rfl, m, a, r.fr (fun c _ _ => o c (by omega) (by omega)) rfl⟩
theorem c_lhas {X : ZS} {σ α : ZM} {T : Bool → ZM → Prop} {l : Int} (hl : r32 l) (cw : CW σ α) (ok : Ok α) (h1 : 0 ≤ l → l < α 0 1 → T true σ) (h0 : ¬ (0 ≤ l ∧ l < α 0 1) → T false σ) : ZC X (rX5_has zN) mX5_has [(2, 6), (0, l)] zN σ (zQz T) := by
  have := ok.l
  exact bk_X5_has ⟨hl, fun q => h0 (by omega), fun q => ⟨by rw [cw.1]; constructor <;> omega, fun q2 => h0 (by rw [cw.1] at q2; omega), fun q2 => h1 (by omega) (by rw [cw.1] at q2; omega)⟩⟩
theorem b_use {X : ZS} {σ α : ZM} {T : Bool → ZM → Prop} {l : Int} (hl : r32 l) (cs : CS σ α) (ok : Ok α) (h : ∀ σ', Ou 1 210 σ σ' → CS σ' (s_use α l) → T (o_use α l) σ') : ZC X (rX11_use zN) mX11_use [(2, 1), (0, l)] zN σ (zQz T) := by
  have hf := cs.fix
  have yes : (l = -1 ∨ 0 ≤ l ∧ l < α 0 1) → T true (z_up (z_up σ 1 13 l) 141 6 0) := fun q => by
    have e : o_use α l = true := decide_eq_true q
    unfold s_use at h
    rw [e, if_pos rfl] at h
    have cm := cs.2.2.2.2.1
    refine h _ (fun c hc => by rw [z_up_far _ _ _ (by omega), z_up_far _ _ _ (by omega)]) (cs.flds ((hf.upF la_1 13 (by decide +kernel)).upF la_141 6 (by decide +kernel)) (fun c c1 c2 => by rw [z_up_far _ _ _ c2, z_up_far _ _ _ c1]) (by rw [z_up_ne _ (Or.inl (by decide)), z_up_ne _ (Or.inr (by decide))]) (by rw [z_up_ne _ (Or.inl (by decide)), z_up_ne _ (Or.inr (by decide))]) ⟨?_, ?_, ?_⟩ rfl rfl (CA.none rfl))
    · rw [z_up_ne _ (Or.inl (by decide)), z_up_same]; rfl
    · rw [z_up_ne _ (Or.inl (by decide)), z_up_ne _ (Or.inr (by decide))]; exact cm.2.1
    · rw [z_up_same]; rfl
  refine bk_X11_use ⟨hl, fun q => ⟨hf, yes (Or.inl q)⟩, fun q => ⟨hf, c_lhas hl cs.2.2.2.1 ok (fun l0 l1 => ⟨fun _ => ⟨hf, yes (Or.inr ⟨l0, l1⟩)⟩, fun q => (by cases q)⟩) (fun q2 => ⟨fun q => (by cases q), fun _ => ?_⟩)⟩⟩
  have e : o_use α l = false := decide_eq_false (by omega)
  unfold s_use at h
  rw [e, if_neg (by decide)] at h
  exact h σ Ou.rfl' cs
theorem b_near {X : ZS} {σ α : ZM} {T : Bool → ZM → Prop} {k : Int} (hk : r32 k) (cs : CS σ α) (h : ∀ σ', Ou 1 210 σ σ' → CS σ' (s_near α k) → T (o_near k) σ') : ZC X (rX11_nearest zN) mX11_nearest [(2, 1), (0, k)] zN σ (zQz T) := by
  have hf := cs.fix
  have cm := cs.2.2.2.2.1
  refine bk_X11_nearest (c_isWithin hk (by decide) (by decide) (fun k1 k8 => ⟨fun _ => ?_, fun q => (by cases q)⟩) (fun q => ⟨fun q => (by cases q), fun _ => ?_⟩))
  · have e : o_near k = true := decide_eq_true ⟨k1, k8⟩
    unfold s_near at h
    rw [e, if_pos rfl] at h
    refine h _ (Ou.rfl'.up (by decide) (by decide)) (cs.flds (hf.upF la_1 14 (by decide +kernel)) (fun c c1 c2 => z_up_far _ _ _ c1) (by rw [z_up_ne _ (Or.inr (by decide))]) (by rw [z_up_ne _ (Or.inr (by decide))]) ⟨?_, ?_, ?_⟩ rfl rfl (cs.2.2.2.2.2.1.fr (fun c _ _ => z_up_far _ _ _ (by omega)) rfl rfl rfl))
    · rw [z_up_ne _ (Or.inr (by decide))]; exact cm.1
    · rw [z_up_same]; rfl
    · rw [z_up_ne _ (Or.inl (by decide))]; exact cm.2.2
  · have e : o_near k = false := decide_eq_false q
    unfold s_near at h
    rw [e, if_neg (by decide)] at h
    exact h σ Ou.rfl' cs
theorem m_isLaw {X : ZS} {σ α : ZM} {T : Bool → ZM → Prop} {l : Int} (hl : r32 l) (mw : MW σ α) (ok : Ok α) (h1 : 0 ≤ l → l < α 0 1 → T true σ) (h0 : ¬ (0 ≤ l ∧ l < α 0 1) → T false σ) : ZC X (rX12_isLaw zN) mX12_isLaw [(2, 211), (0, l)] zN σ (zQz T) := by
  have := ok.l
  exact bk_X12_isLaw ⟨hl, fun q => h0 (by omega), fun q => ⟨by rw [mw.1]; constructor <;> omega, fun q2 => h0 (by rw [mw.1] at q2; omega), fun q2 => h1 (by omega) (by rw [mw.1] at q2; omega)⟩⟩
theorem MS.flds {σ σ' α : ZM} {f : Int → Int} (h : MS σ α) (hf : Fix σ') (o : ∀ c : Int, c ≠ 211 → σ' c = σ c) (o1 : ∀ i : Int, i ≠ 11 → i ≠ 12 → i ≠ 13 → σ' 211 i = σ 211 i) (m : MM σ' (rp α 0 f)) (f0 : f 0 = α 0 0) (f1 : f 1 = α 0 1) (f4 : f 4 = 0 ∨ f 4 = α 0 4) : MS σ' (rp α 0 f) := by
  obtain ⟨⟨v, n, mv⟩, l, g, w, _⟩ := h
  refine ⟨⟨v, n.row hf (o 212 (by decide)), ?_⟩, l.fr (o 213 (by decide)) (o 214 (by decide)) (o 215 (by decide)) rfl rfl rfl, g.fr (o1 4 (by decide) (by decide) (by decide)) (fun c _ _ => o c (by omega)) f0 rfl rfl rfl rfl, w.fr (o1 9 (by decide) (by decide) (by decide)) (o 220 (by decide)) f1 rfl, m⟩
  rcases f4 with q | q
  · exact mv.none q rfl
  · exact mv.fr q rfl rfl rfl
theorem m_use {X : ZS} {σ α : ZM} {T : Bool → ZM → Prop} {l : Int} (hl : r32 l) (ms : MS σ α) (ok : Ok α) (h : ∀ σ', Ou 211 229 σ σ' → MS σ' (s_use α l) → T (o_use α l) σ') : ZC X (rX12_use zN) mX12_use [(2, 211), (0, l)] zN σ (zQz T) := by
  have hf := ms.fix
  have yes : (l = -1 ∨ 0 ≤ l ∧ l < α 0 1) → T true (z_up (z_up σ 211 11 l) 211 13 0) := fun q => by
    have e : o_use α l = true := decide_eq_true q
    unfold s_use at h
    rw [e, if_pos rfl] at h
    have cm := ms.2.2.2.2
    refine h _ (fun c hc => by rw [z_up_far _ _ _ (by omega), z_up_far _ _ _ (by omega)]) (ms.flds ((hf.upF la_211 11 (by decide +kernel)).upF la_211 13 (by decide +kernel)) (fun c c1 => by rw [z_up_far _ _ _ c1, z_up_far _ _ _ c1]) (fun i i1 i2 i3 => by rw [z_up_ne _ (Or.inr i3), z_up_ne _ (Or.inr i1)]) ⟨?_, ?_, ?_⟩ rfl rfl (Or.inl rfl))
    · rw [z_up_ne _ (Or.inr (by decide)), z_up_same]; rfl
    · rw [z_up_ne _ (Or.inr (by decide)), z_up_ne _ (Or.inr (by decide))]; exact cm.2.1
    · rw [z_up_same]; rfl
  refine bk_X12_use ⟨hl, fun q => yes (Or.inl q), fun q => m_isLaw hl ms.2.2.2.1 ok (fun l0 l1 => ⟨fun _ => yes (Or.inr ⟨l0, l1⟩), fun q => (by cases q)⟩) (fun q2 => ⟨fun q => (by cases q), fun _ => ?_⟩)⟩
  have e : o_use α l = false := decide_eq_false (by omega)
  unfold s_use at h
  rw [e, if_neg (by decide)] at h
  exact h σ Ou.rfl' ms
theorem m_near {X : ZS} {σ α : ZM} {T : Bool → ZM → Prop} {k : Int} (hk : r32 k) (ms : MS σ α) (h : ∀ σ', Ou 211 229 σ σ' → MS σ' (s_near α k) → T (o_near k) σ') : ZC X (rX12_nearest zN) mX12_nearest [(2, 211), (0, k)] zN σ (zQz T) := by
  have hf := ms.fix
  have cm := ms.2.2.2.2
  have no : ¬ (1 ≤ k ∧ k ≤ 8) → T false σ := fun q => by
    have e : o_near k = false := decide_eq_false q
    unfold s_near at h
    rw [e, if_neg (by decide)] at h
    exact h σ Ou.rfl' ms
  refine bk_X12_nearest ⟨hk, fun q => no (by omega), fun q => ⟨fun q2 => ?_, fun q2 => no (by omega)⟩⟩
  have e : o_near k = true := decide_eq_true ⟨by omega, q2⟩
  unfold s_near at h
  rw [e, if_pos rfl] at h
  refine h _ (Ou.rfl'.up (by decide) (by decide)) (ms.flds (hf.upF la_211 12 (by decide +kernel)) (fun c c1 => z_up_far _ _ _ c1) (fun i i1 i2 i3 => z_up_ne _ (Or.inr i2)) ⟨?_, ?_, ?_⟩ rfl rfl (Or.inr rfl))
  · rw [z_up_ne _ (Or.inr (by decide))]; exact cm.1
  · rw [z_up_same]; rfl
  · rw [z_up_ne _ (Or.inr (by decide))]; exact cm.2.2
/-! laws -/
def o_unlike (α : ZM) (l w : Int) : Int := if (0 ≤ l ∧ l < α 0 1) ∧ 0 ≤ w ∧ w ≤ 80 then α 5 (81 * l + w) else -1
/-- a law tells -/
theorem c_tell {X : ZS} {σ α : ZM} {T : Int → ZM → Prop} {l w : Int} (l0 : 0 ≤ l) (l1 : l < α 0 1) (w0 : 0 ≤ w) (w1 : w ≤ 80) (hf : Fix σ) (cw : CW σ α) (ok : Ok α) (h : T (α 5 (81 * l + w)) σ) : ZC X (rX5_tell zN) mX5_tell [(2, 6), (0, l), (0, w)] zN σ (zQi T) := by
  have := ok.l
  refine bk_X5_tell (c_lhas (by constructor <;> omega) cw ok (fun _ _ => ⟨fun q => (by cases q), fun _ => ⟨by constructor <;> omega, fun q => ?_, fun q => ⟨fun q2 => absurd q2 (by omega), fun _ => ⟨hf, by omega, by omega, ?_⟩⟩⟩⟩) (fun q => absurd ⟨l0, l1⟩ q))
  · have e := (ok.w l w l0 l1 w0 w1).2 (by omega)
    rw [e] at h; exact h
  · rw [cw.2 l w l0 l1 (by omega) w1]; exact h
theorem b_unlike {X : ZS} {σ α : ZM} {T : Int → ZM → Prop} {l w : Int} (hl : r32 l) (hw : r32 w) (cs : CS σ α) (ok : Ok α) (h : T (o_unlike α l w) σ) : ZC X (rX11_unlike zN) mX11_unlike [(2, 1), (0, l), (0, w)] zN σ (zQi T) := by
  have hf := cs.fix
  unfold o_unlike at h
  refine bk_X11_unlike ⟨hf, c_lhas hl cs.2.2.2.1 ok (fun l0 l1 => ⟨fun q => (by cases q), fun _ => c_isWithin hw (by decide) (by decide) (fun w0 w1 => ⟨fun q => (by cases q), fun _ => ⟨hf, c_tell l0 l1 w0 w1 hf cs.2.2.2.1 ok (by rw [if_pos ⟨⟨l0, l1⟩, w0, w1⟩] at h; exact h)⟩⟩) (fun q => ⟨fun _ => (by rw [if_neg (fun w => q w.2)] at h; exact h), fun q => (by cases q)⟩)⟩) (fun q => ⟨fun _ => (by rw [if_neg (fun w => q w.1)] at h; exact h), fun q => (by cases q)⟩)⟩
theorem m_unlike {X : ZS} {σ α : ZM} {T : Int → ZM → Prop} {l w : Int} (hl : r32 l) (hw : r32 w) (ms : MS σ α) (ok : Ok α) (h : T (o_unlike α l w) σ) : ZC X (rX12_unlike zN) mX12_unlike [(2, 211), (0, l), (0, w)] zN σ (zQi T) := by
  have hf := ms.fix
  have := ok.l
  unfold o_unlike at h
  have no : ¬ ((0 ≤ l ∧ l < α 0 1) ∧ 0 ≤ w ∧ w ≤ 80) → T (-1) σ := fun q => by rw [if_neg q] at h; exact h
  refine bk_X12_unlike (m_isLaw hl ms.2.2.2.1 ok (fun l0 l1 => ⟨fun q => (by cases q), fun _ => ⟨hw, fun q => no (by omega), fun q => ⟨fun q2 => no (by omega), fun q2 => ⟨hf, by omega, by omega, ?_⟩⟩⟩⟩) (fun q => ⟨fun _ => no (fun w => q w.1), fun q => (by cases q)⟩))
  rw [ms.2.2.2.1.2 l w l0 l1 (by omega) (by omega)]
  rw [if_pos ⟨⟨l0, l1⟩, by omega, by omega⟩] at h; exact h
/-- a law is added: f tells for a way -/
def lw_add (α : ZM) (f : Int → Int) : ZM := rp (rp α 5 (fun t => if 81 * α 0 1 ≤ t ∧ t ≤ 81 * α 0 1 + 80 then f (t - 81 * α 0 1) else α 5 t)) 0 (fu (α 0) 1 (α 0 1 + 1))
theorem lw_at {α : ZM} {f : Int → Int} {l w : Int} (l1 : l < α 0 1 + 1) (w0 : 0 ≤ w) (w1 : w ≤ 80) : lw_add α f 5 (81 * l + w) = if l = α 0 1 then f w else α 5 (81 * l + w) := by
  show (if 81 * α 0 1 ≤ 81 * l + w ∧ 81 * l + w ≤ 81 * α 0 1 + 80 then f (81 * l + w - 81 * α 0 1) else α 5 (81 * l + w)) = _
  by_cases q : l = α 0 1
  · rw [if_pos (by omega), if_pos q, show 81 * l + w - 81 * α 0 1 = w by omega]
  · rw [if_neg (by omega), if_neg q]
theorem ok_add {α : ZM} {f : Int → Int} (ok : Ok α) (h6 : α 0 1 < 6) (hf : ∀ w : Int, 0 ≤ w → w ≤ 80 → (0 ≤ f w ∧ f w ≤ 16000) ∧ (w = 0 → f w = 0)) : Ok (lw_add α f) := by
  have hl := ok.l
  have hu := ok.u
  refine ⟨ok.s, (by show 0 ≤ α 0 1 + 1 ∧ α 0 1 + 1 ≤ 6; omega), (by show -1 ≤ α 0 2 ∧ α 0 2 < α 0 1 + 1; omega), ok.n, ok.h, ok.g, fun l w l0 l1 w0 w1 => ?_, ok.e, ok.r⟩
  have l1 : l < α 0 1 + 1 := l1
  rw [lw_at l1 w0 w1]
  by_cases q : l = α 0 1
  · rw [if_pos q]; exact hf w w0 w1
  · rw [if_neg q]; exact ok.w l w l0 (by omega) w0 w1
theorem CS.law {σ σ' α : ZM} {f : Int → Int} (h : CS σ α) (hf : Fix σ') (o : ∀ c : Int, c ≠ 2 → c ≠ 6 → c ≠ 7 → σ' c = σ c) (h6 : σ' 6 1 = α 0 1 + 1) (h7 : ∀ l w : Int, 0 ≤ l → l < α 0 1 → 1 ≤ w → w ≤ 80 → σ' 7 (l * 81 + w) = σ 7 (l * 81 + w)) (h8 : ∀ w : Int, 1 ≤ w → w ≤ 80 → σ' 7 (α 0 1 * 81 + w) = f w) : CS σ' (lw_add α f) := by
  obtain ⟨b, l, g, w, m, a, r⟩ := h
  refine ⟨b.fr hf (fun c _ _ _ => o c (by omega) (by omega) (by omega)), l.fr (o 3 (by decide) (by decide) (by decide)) (o 4 (by decide) (by decide) (by decide)) (o 5 (by decide) (by decide) (by decide)) rfl rfl rfl, g.fr (by rw [o 1 (by decide) (by decide) (by decide)]) (by rw [o 1 (by decide) (by decide) (by decide)]) (fun c _ _ => o c (by have := g.1; omega) (by have := g.1; omega) (by have := g.1; omega)) rfl rfl rfl rfl rfl, ⟨h6, fun l w' l0 l1 w0 w1 => ?_⟩, m.fr (by rw [o 1 (by decide) (by decide) (by decide)]) (by rw [o 1 (by decide) (by decide) (by decide)]) (by rw [o 141 (by decide) (by decide) (by decide)]) rfl rfl rfl, a.fr (fun c _ _ => o c (by omega) (by omega) (by omega)) rfl rfl rfl, r.fr (fun c _ _ => o c (by omega) (by omega) (by omega)) rfl⟩
  have l1 : l < α 0 1 + 1 := l1
  rw [lw_at l1 (by omega) w1]
  by_cases q : l = α 0 1
  · rw [if_pos q, q]; exact h8 w' w0 w1
  · rw [if_neg q, h7 l w' l0 (by omega) w0 w1]; exact w.2 l w' l0 (by omega) w0 w1
theorem MS.law {σ σ' α : ZM} {f : Int → Int} (h : MS σ α) (hf : Fix σ') (o : ∀ c : Int, c ≠ 211 → c ≠ 220 → c ≠ 225 → σ' c = σ c) (o1 : ∀ i : Int, i ≠ 9 → σ' 211 i = σ 211 i) (h9 : σ' 211 9 = α 0 1 + 1) (h7 : ∀ l w : Int, 0 ≤ l → l < α 0 1 → 0 ≤ w → w ≤ 80 → σ' 220 (81 * l + w) = σ 220 (81 * l + w)) (h8 : ∀ w : Int, 0 ≤ w → w ≤ 80 → σ' 220 (81 * α 0 1 + w) = f w) : MS σ' (lw_add α f) := by
  obtain ⟨⟨v, n, mv⟩, l, g, w, m⟩ := h
  refine ⟨⟨v, n.row hf (o 212 (by decide) (by decide) (by decide)), mv.fr rfl rfl rfl rfl⟩, l.fr (o 213 (by decide) (by decide) (by decide)) (o 214 (by decide) (by decide) (by decide)) (o 215 (by decide) (by decide) (by decide)) rfl rfl rfl, g.fr (o1 4 (by decide)) (fun c _ _ => o c (by omega) (by omega) (by omega)) rfl rfl rfl rfl rfl, ⟨h9, fun l w' l0 l1 w0 w1 => ?_⟩, m.fr (o1 11 (by decide)) (o1 12 (by decide)) (o1 13 (by decide)) rfl rfl rfl⟩
  have l1 : l < α 0 1 + 1 := l1
  rw [lw_at l1 w0 w1]
  by_cases q : l = α 0 1
  · rw [if_pos q, q]; exact h8 w' w0 w1
  · rw [if_neg q, h7 l w' l0 (by omega) w0 w1]; exact w.2 l w' l0 (by omega) w0 w1
