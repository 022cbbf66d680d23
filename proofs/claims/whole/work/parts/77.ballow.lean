theorem cn_all {n : Nat} : ∀ {s : Nat}, s ≤ n → cn (allBut n (-1)) s = s
  | 0, _ => rfl
  | s + 1, h => by
    show cn (allBut n (-1)) s + _ = s + 1
    rw [cn_all (by omega), if_pos (show allBut n (-1) s = true from decide_eq_true ⟨by omega, by omega⟩)]
theorem b_allowed {X : ZS} {σ α : ZM} {T : Int → ZM → Prop} {l : Int} (hl : r32 l) (cs : CS σ α) (ok : Ok α) (h0 : ¬ (0 ≤ l ∧ l < α 0 1) → T (-1) σ) (h1 : (0 ≤ l ∧ l < α 0 1) → ∀ r σ', CS σ' α → Ou 1 210 σ σ' → jd ((α 0 0).toNat - 1) (sqC (Gx α l 0)) r → T r σ') : ZC X (rX11_allowed zN) mX11_allowed [(2, 1), (0, l)] zN σ (zQi T) := by
  have hf := cs.fix
  have s8 := ok.s
  have gg := cs.2.2.1
  have pl := gg.pl ok
  have hsv : σ 1 11 = 199 ∨ σ 1 11 = 205 := by have := gg.1; omega
  refine bk_X11_allowed ⟨hf, c_lhas hl cs.2.2.2.1 ok (fun l0 l1 => ⟨fun _ => ⟨hf, pl.1, ?_⟩, fun q => (by cases q)⟩) (fun q => ⟨fun q => (by cases q), fun _ => h0 q⟩)⟩
  rw [show σ (σ 1 11 + 1) 2 = (((α 0 0).toNat : Nat) : Int) by rw [gg.2.1]; omega]
  obtain ⟨n, hn⟩ : ∃ n, n = (α 0 0).toNat := ⟨_, rfl⟩
  rw [← hn] at h1 ⊢
  refine c_chooseAllBut (by omega) (by decide) hf (fun σ7 f7 o7 p7 ch => ⟨f7, ?_⟩)
  have cs7 : CS σ7 α := cs.tmp (cs.1.fr f7 (fun c _ _ _ => o7 c (by omega))) (fun c hc => o7 c (by omega))
  have cd : CD σ7 α n (fun a => a) := by
    refine ⟨by rw [ch.1, cn_all (Nat.le_refl _)], by omega, fun a ha => ⟨?_, by show (a : Int) < α 0 0; omega⟩, fun a b _ _ e => e⟩
    have := ch.2 a ha (decide_eq_true ⟨ha, by omega⟩)
    rw [cn_all (by omega)] at this
    exact this
  refine c_measure cs7 ok l0 l1 (Or.inl rfl) cd (fun σ10 c10 o10 v10 => ⟨c10.fix, ?_⟩)
  have cd10 : CD σ10 α n (fun a => a) := cd.fr (by rw [o10 11 (by decide)]) (o10 12 (by decide))
  have Ar : ∀ i j : Nat, i < n → j < n → -100 ≤ Gx α l 0 i j ∧ Gx α l 0 i j ≤ 16000 := fun i j hi hj => Gx_r ok l0 l1 (by omega) (by omega)
  refine c_fillSquare (α := α) (A := fun i j => Gx α l 0 i j) (by omega) cd10.1 c10.1.2.2.1 c10.1.wn v10 (fun i j hi hj => by have := Ar i j hi hj; omega) (fun σ13 w13 o13 n13 v13 => ⟨n13.1, bk_X2_unknowns ?_⟩)
  have e4 : σ13 11 4 = n := by rw [o13 11 (by decide)]; exact cd10.1
  rw [e4, show max 0 ((n : Int) - 1) = ((n - 1 : Nat) : Int) by omega]
  refine ⟨by constructor <;> omega, ?_⟩
  have e17 : σ13 17 = σ10 17 := o13 17 (by decide)
  have sy : Sy (n - 1) (sqC (Gx α l 0)) := by
    by_cases n0 : n = 0
    · intro i j hi hj; omega
    · have := sy_class (n := n - 1) (G := Gx α l 0) (fun i j _ _ => Gx_comm α l 0 i j)
      exact this
  refine c_judge (w := w13) (u := n - 1) (A := sqC (Gx α l 0)) (by omega) (by rw [e17]; exact c10.1.2.2.1) n13 (fun i j hi hj => ?_) (fun i j hi hj => ?_) sy (fun r σ' w' n' g' o' J => ?_)
  · rw [e17]; exact v13 i j (by omega) (by omega)
  · have a1 := Ar (i + 1) 0 (by omega) (by omega)
    have a2 := Ar 0 (j + 1) (by omega) (by omega)
    have a3 := Ar (i + 1) (j + 1) (by omega) (by omega)
    have a4 := Ar 0 0 (by omega) (by omega)
    unfold sqC
    omega
  · have ou : Ou 11 140 σ σ' := fun c hc => by rw [o' c (by omega), o13 c (by omega), o10 c (by omega), o7 c (by omega)]
    exact h1 ⟨l0, l1⟩ r σ' (cs.grid n' g' ou) (ou.mono (by decide) (by decide)) J
theorem jd_uniq {u : Nat} {A : Nat → Nat → Int} {r r' : Int} (h : jd u A r) (h' : jd u A r') : r = r' := by
  rcases h with ⟨a, b⟩ | ⟨a, b, c⟩ | ⟨a, b, c⟩ <;> rcases h' with ⟨a', b'⟩ | ⟨a', b', c'⟩ | ⟨a', b', c'⟩
  · omega
  · exact absurd b' b
  · exact absurd b' b
  · exact absurd b b'
  · omega
  · exact absurd c' c
  · exact absurd b b'
  · exact absurd c c'
  · omega
theorem jd_base {n : Nat} {G : Nat → Nat → Int} {r : Int} (hs : Sy (n + 1) G) (h0 : G 0 0 = 0) (hn : G n n = 0) (h : jd n (sqM G n) r) : jd n (sqC G) r := by
  have b := bases hs h0 hn
  unfold jd at h ⊢
  rw [b.1, b.2]; exact h
/-! the model -/
theorem m_between {X : ZS} {σ α : ZM} {T : Int → ZM → Prop} {l i j : Int} (hf : Fix σ) (mg : MG σ α) (mw : MW σ α) (ok : Ok α) (l0 : 0 ≤ l) (l1 : l < α 0 1) (i0 : 0 ≤ i) (i1 : i < α 0 0) (j0 : 0 ≤ j) (j1 : j < α 0 0) (h : T (α 5 (81 * l + wy α i j)) σ) : ZC X (rX12_between zN) mX12_between [(2, 211), (0, l), (0, i), (0, j)] zN σ (zQi T) := by
  have s8 := ok.s
  have L6 := ok.l
  have gi := mg.2 i i0 i1
  have gj := mg.2 j j0 j1
  have oi := ok.g i i0 i1
  have oj := ok.g j j0 j1
  have w := wy_r ok i0 i1 j0 j1
  refine bk_X12_between ⟨hf, i0, by omega, j0, by omega, ?_⟩
  rw [gi.1, gi.2.1, gj.1, gj.2.1]
  refine m_way oi.1 oi.2.1 oj.1 oj.2.1 ?_
  show (0 ≤ 81 * l + wy α i j) ∧ (81 * l + wy α i j < 486) ∧ T (σ 220 (81 * l + wy α i j)) σ
  rw [mw.2 l (wy α i j) l0 l1 w.1 w.2]
  exact ⟨by omega, by omega, h⟩
/-- the model's working cells change -/
def Mw (σ σ' : ZM) : Prop := (∀ c : Int, c ≠ 211 → c ≠ 212 → c < 221 → σ' c = σ c) ∧ (∀ c : Int, 229 < c → σ' c = σ c) ∧ ∀ i : Int, i < 17 → σ' 211 i = σ 211 i
theorem Mw.rfl' {σ : ZM} : Mw σ σ := ⟨fun _ _ _ _ => rfl, fun _ _ => rfl, fun _ _ => rfl⟩
theorem Mw.trans {σ σ1 σ2 : ZM} (h1 : Mw σ σ1) (h2 : Mw σ1 σ2) : Mw σ σ2 := ⟨fun c a b d => (h2.1 c a b d).trans (h1.1 c a b d), fun c a => (h2.2.1 c a).trans (h1.2.1 c a), fun i a => (h2.2.2 i a).trans (h1.2.2 i a)⟩
theorem Mw.ofO {σ σ' : ZM} (h : Mo σ σ') : Mw σ σ' := ⟨fun c _ b d => h c b (by omega) (by omega) (by omega), fun c a => h c (by omega) (by omega) (by omega) (by omega), fun i _ => by rw [h 211 (by decide) (by decide) (by decide) (by decide)]⟩
theorem Mw.ofK {σ σ' : ZM} (h : Mk σ σ') : Mw σ σ' := ⟨fun c a b d => by funext i; exact h c i b (by omega) (by omega) (by omega) (by omega) (fun w => a w.1), fun c a => by funext i; exact h c i (by omega) (by omega) (by omega) (by omega) (by omega) (by omega), fun i a => h 211 i (by decide) (by decide) (by decide) (by decide) (by decide) (by omega)⟩
theorem Mw.up {σ σ' : ZM} (h : Mw σ σ') {c i x : Int} (hc : 221 ≤ c ∧ c ≤ 229 ∨ c = 211 ∧ 17 ≤ i) : Mw σ (z_up σ' c i x) := by
  refine ⟨fun d a b e => ?_, fun d a => ?_, fun j a => ?_⟩
  · rw [z_up_far _ _ _ (by omega)]; exact h.1 d a b e
  · rw [z_up_far _ _ _ (by omega)]; exact h.2.1 d a
  · rw [z_up_ne _ (by omega)]; exact h.2.2 j a
theorem Mw.ou {σ σ' : ZM} (h : Mw σ σ') : Ou 211 229 σ σ' := fun c hc => by
  rcases hc with q | q
  · exact h.1 c (by omega) (by omega) (by omega)
  · exact h.2.1 c q
theorem MS.mw {σ σ' α : ZM} {w : Int → Int} (h : MS σ α) (o : Mw σ σ') (n : NM σ' w) (mv : MV α w) : MS σ' α := by
  obtain ⟨_, l, g, mw, m⟩ := h
  exact ⟨⟨w, n, mv⟩, l.fr (o.1 213 (by decide) (by decide) (by decide)) (o.1 214 (by decide) (by decide) (by decide)) (o.1 215 (by decide) (by decide) (by decide)) rfl rfl rfl, g.fr (o.2.2 4 (by decide)) (fun c _ _ => o.1 c (by omega) (by omega) (by omega)) rfl rfl rfl rfl rfl, mw.fr (o.2.2 9 (by decide)) (o.1 220 (by decide) (by decide) (by decide)) rfl rfl, m.fr (o.2.2 11 (by decide)) (o.2.2 12 (by decide)) (o.2.2 13 (by decide)) rfl rfl rfl⟩
theorem MG.mw {σ σ' α : ZM} (h : MG σ α) (o : Mw σ σ') : MG σ' α := h.fr (o.2.2 4 (by decide)) (fun c _ _ => o.1 c (by omega) (by omega) (by omega)) rfl rfl rfl rfl rfl
theorem MW.mw {σ σ' α : ZM} (h : MW σ α) (o : Mw σ σ') : MW σ' α := h.fr (o.2.2 9 (by decide)) (o.1 220 (by decide) (by decide) (by decide)) rfl rfl
/-- numbers that last -/
def Kp (v w : Int → Int) : Prop := (∀ k : Int, 110 ≤ k → k < 132 → w k = v k) ∧ w 0 = v 0 ∧ w 1 = v 1
theorem Kp.mv {α : ZM} {v w : Int → Int} (h : Kp v w) (m : MV α v) : MV α w := by
  refine ⟨fun q k k0 k1 => ?_, by rw [h.2.1]; exact m.2.1, by rw [h.2.2]; exact m.2.2⟩
  rw [h.1 (110 + k) (by omega) (by omega), h.1 (121 + k) (by omega) (by omega)]
  exact m.1 q k k0 k1
theorem Kp.rfl' {v : Int → Int} : Kp v v := ⟨fun _ _ _ => rfl, rfl, rfl⟩
theorem Kp.trans {u v w : Int → Int} (h1 : Kp u v) (h2 : Kp v w) : Kp u w := ⟨fun k a b => (h2.1 k a b).trans (h1.1 k a b), h2.2.1.trans h1.2.1, h2.2.2.trans h1.2.2⟩
theorem Kp.fu {v : Int → Int} {k x : Int} (h1 : 2 ≤ k) (h2 : k < 110) : Kp v (fu v k x) := ⟨fun j a b => fu_n _ _ (by omega), fu_n _ _ (by omega), fu_n _ _ (by omega)⟩
