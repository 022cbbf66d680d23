def shd (f : Int → Int) (i : Int) : Int → Int := fun t => if t < i then f t else f (t + 1)
/-- a row moved up to j -/
def mvd (f : Int → Int) (i j : Int) : Int → Int := fun t => if i ≤ t ∧ t < j - 1 then f (t + 1) else f t
theorem mvd_st {f : Int → Int} {i j : Int} (h : i < j) : fu (mvd f i j) (j - 1) (mvd f i j j) = mvd f i (j + 1) := by
  funext t
  unfold mvd
  by_cases w : t = j - 1
  · subst w; rw [fu_s, if_neg (by omega), if_pos (by omega), show j - 1 + 1 = j by omega]
  · rw [fu_n _ _ w]
    by_cases q : i ≤ t ∧ t < j - 1
    · rw [if_pos q, if_pos (by omega)]
    · rw [if_neg q, if_neg (by omega)]
theorem mvd_0 {f : Int → Int} {i : Int} : mvd f i (i + 1) = f := by
  funext t; unfold mvd; rw [if_neg (by omega)]
theorem mvd_e {f : Int → Int} {i j t : Int} (h : t < j - 1) : mvd f i j t = shd f i t := by
  unfold mvd shd
  by_cases q : t < i
  · rw [if_neg (by omega), if_pos q]
  · rw [if_pos (by omega), if_neg q]
def o_drop (α : ZM) (i : Int) : Int := if 0 ≤ i ∧ i < α 0 0 then α 0 0 - 1 else -2
def sg_drop (α : ZM) (i : Int) : ZM := rp (rp (rp (rp (rp α 1 (shd (α 1) i)) 2 (shd (α 2) i)) 3 (shd (α 3) i)) 4 (shd (α 4) i)) 0 (fu (fu (α 0) 0 (α 0 0 - 1)) 4 0)
def s_drop (α : ZM) (i : Int) : ZM := if 0 ≤ o_drop α i then sg_drop α i else α
theorem ok_drop {α : ZM} {i : Int} (ok : Ok α) : Ok (s_drop α i) := by
  unfold s_drop
  split
  · rename_i h
    have s := ok.s
    unfold o_drop at h
    split at h
    · refine ⟨?_, ok.l, ok.u, ok.n, Or.inl rfl, ?_, ok.w, ok.e, ok.r⟩
      · show 0 ≤ α 0 0 - 1 ∧ α 0 0 - 1 ≤ 8
        omega
      · intro j j0 j1
        have j1 : j < α 0 0 - 1 := j1
        show (-20 ≤ shd (α 1) i j ∧ shd (α 1) i j ≤ 20) ∧ (-20 ≤ shd (α 2) i j ∧ shd (α 2) i j ≤ 20) ∧ (-1000 ≤ shd (α 3) i j ∧ shd (α 3) i j ≤ 1000) ∧ (0 ≤ shd (α 4) i j ∧ shd (α 4) i j ≤ 100)
        unfold shd
        by_cases w : j < i
        · rw [if_pos w, if_pos w, if_pos w, if_pos w]; exact ok.g j j0 (by omega)
        · rw [if_neg w, if_neg w, if_neg w, if_neg w]; exact ok.g (j + 1) (by omega) (by omega)
    · omega
  · exact ok
theorem c_premove {X : ZS} {σ : ZM} {T : ZM → Prop} {p i m : Int} (hp : z_l p = (6, 3)) (l1 : z_l (p + 1) = (20, 8)) (l2 : z_l (p + 2) = (20, 8)) (hf : Fix σ) (hm : σ p 2 = m) (m8 : m ≤ 8) (i0 : 0 ≤ i) (im : i < m) (h : ∀ σ', Fix σ' → (∀ c : Int, c < p ∨ p + 2 < c → σ' c = σ c) → σ' p 2 = m - 1 → σ' (p + 1) = mvd (σ (p + 1)) i m → σ' (p + 2) = mvd (σ (p + 2)) i m → T σ') : ZC X (rX6_remove zN) mX6_remove [(2, p), (0, i)] zN σ (zQv T) := by
  have loop : ∀ (l : Nat) (j : Int) (τ : ZM), i < j → j + l = m → Fix τ → (∀ c : Int, c < p ∨ p + 2 < c → τ c = σ c) → τ p 2 = m → τ (p + 1) = mvd (σ (p + 1)) i j → τ (p + 2) = mvd (σ (p + 2)) i j → Z X (rX6_remove zN) mX6_remove 13 [(2, p), (9, 0), (0, j)] [] zN τ (zQv T) := by
    intro l
    induction l with
    | zero =>
      intro j τ ij hj f o t0 t1 t2
      have : j = m := by omega
      subst this
      refine bk_X6_remove_13 hp ⟨by constructor <;> omega, by rw [t0]; constructor <;> omega, fun _ => h _ (f.upF hp 2 (by decide +kernel)) (fun c hc => by rw [z_up_far _ _ _ (by omega)]; exact o c hc) (by rw [z_up_same, t0]) (by rw [z_up_far _ _ _ (by omega), t1]) (by rw [z_up_far _ _ _ (by omega), t2]), fun q => absurd (by rw [t0]; exact Int.le_refl _) q⟩
    | succ l ih =>
      intro j τ ij hj f o t0 t1 t2
      refine bk_X6_remove_13 hp ⟨by constructor <;> omega, by rw [t0]; constructor <;> omega, fun q => absurd q (by omega), fun _ => ⟨f, by omega, by rw [l1]; show j < 8; omega, by omega, by rw [l1]; show j - 1 < 8; omega, by rw [l2]; show j < 8; omega, by rw [l2]; show j - 1 < 8; omega, ?_⟩⟩
      refine ih (j + 1) _ (by omega) (by omega) ((f.upA l1 (by decide)).upA l2 (by decide)) (fun c hc => by rw [z_up_far _ _ _ (by omega), z_up_far _ _ _ (by omega)]; exact o c hc) (by rw [z_up_far _ _ _ (by omega), z_up_far _ _ _ (by omega)]; exact t0) ?_ ?_
      · rw [z_up_far _ _ _ (by omega), z_up_row, t1, mvd_st ij]
      · rw [z_up_row, z_up_far _ _ _ (by omega), t2, mvd_st ij]
  exact bk_X6_remove hp (c_phas hp (by constructor <;> omega) hm (by constructor <;> omega) (fun _ _ => ⟨fun _ => loop (m - (i + 1)).toNat (i + 1) σ (by omega) (by omega) hf (fun _ _ => rfl) hm mvd_0.symm mvd_0.symm, fun q => (by cases q)⟩) (fun q => absurd ⟨i0, im⟩ q))
theorem b_drop {X : ZS} {σ α : ZM} {T : Int → ZM → Prop} {i : Int} (hi : r32 i) (cs : CS σ α) (ok : Ok α) (h : ∀ σ', Ou 1 210 σ σ' → CS σ' (s_drop α i) → T (o_drop α i) σ') : ZC X (rX11_drop zN) mX11_drop [(2, 1), (0, i)] zN σ (zQi T) := by
  have hf := cs.fix
  have s8 := ok.s
  obtain ⟨g1, g2, g3⟩ := cs.2.2.1
  obtain ⟨s, hs⟩ : ∃ s, s = σ 1 11 := ⟨_, rfl⟩
  have z := sl (s := s) (by omega)
  have hsv : s = 199 ∨ s = 205 := by omega
  rw [← hs] at g2 g3
  have e1 : s + 1 + 1 = s + 2 := by omega
  have e2 : s + 1 + 2 = s + 3 := by omega
  have rS : r32 (α 0 0) := by constructor <;> omega
  refine bk_X11_drop ?_
  rw [← hs]
  refine ⟨z.1, hf, c_phas z.2.1 hi g2 rS (fun i0 i1 => ⟨fun _ => ?_, fun q => (by cases q)⟩) (fun q => ⟨fun q => (by cases q), fun _ => ?_⟩)⟩
  · have eo : o_drop α i = α 0 0 - 1 := by unfold o_drop; rw [if_pos ⟨i0, i1⟩]
    unfold s_drop at h
    rw [eo, if_pos (by omega)] at h
    rw [← hs]
    refine ⟨z.1, bk_X7_remove z.1 ⟨hf, c_phas z.2.1 hi g2 rS (fun _ _ => ⟨fun _ => ?_, fun q => (by cases q)⟩) (fun q => absurd ⟨i0, i1⟩ q)⟩⟩
    have loop : ∀ (l : Nat) (j : Int) (τ : ZM), i < j → j + l = α 0 0 → Fix τ → (∀ c : Int, c < s + 4 ∨ s + 5 < c → τ c = σ c) → τ (s + 4) = mvd (σ (s + 4)) i j → τ (s + 5) = mvd (σ (s + 5)) i j → Z X (rX7_remove zN) mX7_remove 16 [(2, s), (0, i), (0, j)] [] zN τ (zQv (fun σ7 => (Fix σ7) ∧ (z_l (σ7 1 11) = (7, 3)) ∧ T (σ7 ((σ7 1 11) + 1) 2) (z_up σ7 141 6 0))) := by
      intro l
      induction l with
      | zero =>
        intro j τ ij hj f o t4 t5
        have : j = α 0 0 := by omega
        have t1 : τ (s + 1) 2 = α 0 0 := by rw [o _ (by omega), g2]
        refine bk_X7_remove_16 z.1 ⟨f, by constructor <;> omega, by rw [t1]; exact rS, fun _ => ?_, fun q => absurd (by omega) q⟩
        refine c_premove (m := α 0 0) z.2.1 (by rw [e1]; exact z.2.2.1) (by rw [e2]; exact z.2.2.2.1) f t1 (by omega) i0 i1 (fun σ5 f5 o5 p0 p1 p2 => ?_)
        rw [e1] at p1
        rw [e2] at p2
        have far : ∀ c : Int, c < s + 1 ∨ s + 5 < c → σ5 c = σ c := fun c hc => by rw [o5 c (by omega), o c (by omega)]
        have t11 : σ5 1 11 = s := by rw [far 1 (by omega), hs]
        rw [t11, p0]
        refine ⟨f5, z.1, h (z_up σ5 141 6 0) (fun c hc => by rw [z_up_far _ _ _ (by omega), far c (by omega)]) (cs.sights (f5.upF la_141 6 (by decide +kernel)) (fun c c1 c2 => by rw [z_up_far _ _ _ c1, far c (by omega)]) (z_up_same _ _ _ _) rfl rfl rfl rfl (fun c c5 => ?_) ?_)⟩
        · unfold sg_drop
          rw [rp_n _ _ (by omega), rp_n _ _ (by omega), rp_n _ _ (by omega), rp_n _ _ (by omega), rp_n _ _ (by omega)]
        · rw [← hs]
          refine ⟨by rw [z_up_far _ _ _ (by omega), p0]; rfl, fun k k0 k1 => ?_⟩
          have k1 : k < α 0 0 - 1 := k1
          rw [z_up_far _ _ _ (by omega), z_up_far _ _ _ (by omega), z_up_far _ _ _ (by omega), z_up_far _ _ _ (by omega), p1, p2, o5 (s + 4) (by omega), o5 (s + 5) (by omega), t4, t5, o (s + 2) (by omega), o (s + 3) (by omega), mvd_e k1, mvd_e k1, mvd_e (by omega), mvd_e (by omega)]
          show shd (σ (s + 2)) i k = shd (α 1) i k ∧ shd (σ (s + 3)) i k = shd (α 2) i k ∧ shd (σ (s + 4)) i k = shd (α 3) i k ∧ shd (σ (s + 5)) i k = shd (α 4) i k
          unfold shd
          by_cases w : k < i
          · rw [if_pos w, if_pos w, if_pos w, if_pos w, if_pos w, if_pos w, if_pos w, if_pos w]; exact g3 k k0 (by omega)
          · rw [if_neg w, if_neg w, if_neg w, if_neg w, if_neg w, if_neg w, if_neg w, if_neg w]; exact g3 (k + 1) (by omega) (by omega)
      | succ l ih =>
        intro j τ ij hj f o t4 t5
        have t1 : τ (s + 1) 2 = α 0 0 := by rw [o _ (by omega), g2]
        refine bk_X7_remove_16 z.1 ⟨f, by constructor <;> omega, by rw [t1]; exact rS, fun q => absurd q (by omega), fun _ => ⟨by omega, by omega, by omega, by omega, ?_⟩⟩
        refine ih (j + 1) _ (by omega) (by omega) ((f.upA z.2.2.2.2.1 (by decide)).upA z.2.2.2.2.2 (by decide)) (fun c hc => by rw [z_up_far _ _ _ (by omega), z_up_far _ _ _ (by omega)]; exact o c hc) ?_ ?_
        · rw [z_up_far _ _ _ (by omega), z_up_row, t4, mvd_st ij]
        · rw [z_up_row, z_up_far _ _ _ (by omega), t5, mvd_st ij]
    exact loop (α 0 0 - (i + 1)).toNat (i + 1) σ (by omega) (by omega) hf (fun _ _ => rfl) mvd_0.symm mvd_0.symm
  · have eo : o_drop α i = -2 := by unfold o_drop; rw [if_neg q]
    unfold s_drop at h
    rw [eo, if_neg (by decide)] at h
    exact h σ Ou.rfl' cs
/-! the model -/
theorem MS.sights {σ σ' α α' : ZM} (h : MS σ α) (hf : Fix σ') (o : ∀ c : Int, c ≠ 211 → c ≠ 225 → (c < 216 ∨ 219 < c) → σ' c = σ c) (o1 : ∀ i : Int, i ≠ 4 → i ≠ 13 → σ' 211 i = σ 211 i) (h6 : σ' 211 13 = 0) (a4 : α' 0 4 = 0) (a1 : α' 0 1 = α 0 1) (a2 : α' 0 2 = α 0 2) (a3 : α' 0 3 = α 0 3) (a : ∀ c : Int, 5 ≤ c → α' c = α c) (sg : MG σ' α') : MS σ' α' := by
  obtain ⟨⟨v, n, mv⟩, l, g, w, m⟩ := h
  exact ⟨⟨v, n.row hf (o 212 (by decide) (by decide) (by decide)), mv.none a4 (a 11 (by decide))⟩, l.fr (o 213 (by decide) (by decide) (by decide)) (o 214 (by decide) (by decide) (by decide)) (o 215 (by decide) (by decide) (by decide)) (a 6 (by decide)) (a 7 (by decide)) (a 8 (by decide)), sg, w.fr (o1 9 (by decide) (by decide)) (o 220 (by decide) (by decide) (by decide)) a1 (a 5 (by decide)), ⟨by rw [o1 11 (by decide) (by decide), a2]; exact m.1, by rw [o1 12 (by decide) (by decide), a3]; exact m.2.1, by rw [h6, a4]⟩⟩
theorem m_isIn {X : ZS} {σ : ZM} {T : Bool → ZM → Prop} {x a b : Int} (hx : r64 x) (ha : r64 a) (hb : r64 b) (h1 : a ≤ x → x ≤ b → T true σ) (h0 : ¬ (a ≤ x ∧ x ≤ b) → T false σ) : ZC X (rX12_isIn zN) mX12_isIn [(1, x), (1, a), (1, b)] zN σ (zQz T) :=
  bk_X12_isIn ⟨hx, ha, fun q => h0 (by omega), fun q => ⟨hb, fun q2 => h0 (by omega), fun q2 => h1 (by omega) (by omega)⟩⟩
theorem m_isSeen {X : ZS} {σ α : ZM} {T : Bool → ZM → Prop} {i : Int} (hi : r32 i) (ms : MG σ α) (ok : Ok α) (h1 : 0 ≤ i → i < α 0 0 → T true σ) (h0 : ¬ (0 ≤ i ∧ i < α 0 0) → T false σ) : ZC X (rX12_isSeen zN) mX12_isSeen [(2, 211), (0, i)] zN σ (zQz T) := by
  have s := ok.s
  have e := ms.1
  exact bk_X12_isSeen ⟨hi, fun q => h0 (by omega), fun q => ⟨by rw [e]; constructor <;> omega, fun q2 => h0 (by omega), fun q2 => h1 (by omega) (by omega)⟩⟩
theorem m_see {X : ZS} {σ α : ZM} {T : Int → ZM → Prop} {x y n d : Int} (hx : r32 x) (hy : r32 y) (hn : r32 n) (hd : r32 d) (ms : MS σ α) (ok : Ok α) (h : ∀ σ', Ou 211 229 σ σ' → MS σ' (s_see α x y n d) → T (o_see α x y n d) σ') : ZC X (rX12_see zN) mX12_see [(2, 211), (0, x), (0, y), (0, n), (0, d)] zN σ (zQi T) := by
  have hf := ms.fix
  have s8 := ok.s
  obtain ⟨g2, g3⟩ := ms.2.2.1
  have bad : ∀ e, o_see α x y n d = e → e < 0 → T e σ := fun e he q => by
    unfold s_see at h; rw [he, if_neg (by omega)] at h; exact h σ Ou.rfl' ms
  have no4 : ¬ (-20 ≤ x ∧ x ≤ 20 ∧ -20 ≤ y ∧ y ≤ 20 ∧ -1000 ≤ n ∧ n ≤ 1000 ∧ 0 ≤ d ∧ d ≤ 100) → T (-4) σ := fun q => bad (-4) (by unfold o_see; rw [if_pos q]) (by decide)
  refine bk_X12_see ⟨hx, m_isIn (r64_of32 hx) (by decide) (by decide) (fun x1 x2 => ⟨fun q => (by cases q), fun _ => ⟨hy, m_isIn (r64_of32 hy) (by decide) (by decide) (fun y1 y2 => ⟨fun q => (by cases q), fun _ => ⟨hn, m_isIn (r64_of32 hn) (by decide) (by decide) (fun n1 n2 => ⟨fun q => (by cases q), fun _ => ⟨hd, m_isIn (r64_of32 hd) (by decide) (by decide) (fun d1 d2 => ⟨fun _ => ?_, fun q => (by cases q)⟩) (fun q => ⟨fun q => (by cases q), fun _ => no4 (by omega)⟩)⟩⟩) (fun q => ⟨fun _ => no4 (by omega), fun q => (by cases q)⟩)⟩⟩) (fun q => ⟨fun _ => no4 (by omega), fun q => (by cases q)⟩)⟩⟩) (fun q => ⟨fun _ => no4 (by omega), fun q => (by cases q)⟩)⟩
  have inr : ¬ ¬ (-20 ≤ x ∧ x ≤ 20 ∧ -20 ≤ y ∧ y ≤ 20 ∧ -1000 ≤ n ∧ n ≤ 1000 ∧ 0 ≤ d ∧ d ≤ 100) := fun q => q ⟨x1, x2, y1, y2, n1, n2, d1, d2⟩
  refine ⟨by rw [g2]; constructor <;> omega, fun q => ?_, fun q => bad (-8) (by unfold o_see; rw [if_neg inr, if_pos (by omega)]) (by decide)⟩
  have s7 : α 0 0 < 8 := by omega
  have loop : ∀ (l : Nat) (i : Int), 0 ≤ i → i + l = α 0 0 → (∀ j : Int, 0 ≤ j → j < i → ¬ (α 1 j = x ∧ α 2 j = y)) → Z X (rX12_see zN) mX12_see 73 [(2, 211), (0, x), (0, y), (0, n), (0, d), (0, i)] [] zN σ (zQi T) := by
    intro l
    induction l with
    | zero =>
      intro i i0 hi hno
      have q2 : tkb (α 1) (α 2) x y (α 0 0).toNat = false := by
        apply Bool.eq_false_iff.mpr
        intro w
        obtain ⟨j, j0, j1, j2⟩ := tkb_iff.mp w
        exact hno j j0 (by omega) j2
      have eo : o_see α x y n d = α 0 0 := by unfold o_see; rw [if_neg inr, if_neg (by omega), q2]; rfl
      unfold s_see at h
      rw [eo, if_pos s8.1] at h
      refine bk_X12_see_73 ⟨by constructor <;> omega, by rw [g2]; constructor <;> omega, fun _ => ⟨hf, by omega, by omega, ?_⟩, fun q => absurd (by omega) q⟩
      rw [g2, show α 0 0 + 1 - 1 = α 0 0 by omega]
      obtain ⟨τ, hτ⟩ : ∃ τ : ZM, τ = z_up (z_up (z_up (z_up (z_up (z_up σ 216 (α 0 0) x) 217 (α 0 0) y) 218 (α 0 0) n) 219 (α 0 0) d) 211 4 (α 0 0 + 1)) 211 13 0 := ⟨_, rfl⟩
      rw [← hτ]
      have far : ∀ c : Int, c ≠ 211 → (c < 216 ∨ 219 < c) → τ c = σ c := fun c c1 hc => by
        rw [hτ, z_up_far _ _ _ (by omega), z_up_far _ _ _ (by omega), z_up_far _ _ _ (by omega), z_up_far _ _ _ (by omega), z_up_far _ _ _ (by omega), z_up_far _ _ _ (by omega)]
      have f0 : Fix τ := by rw [hτ]; exact (((((hf.upA la_216 (by decide)).upA la_217 (by decide)).upA la_218 (by decide)).upA la_219 (by decide)).upF la_211 4 (by decide +kernel)).upF la_211 13 (by decide +kernel)
      refine h τ (fun c hc => far c (by omega) (by omega)) (ms.sights f0 (fun c c1 _ hc => far c c1 hc) (fun i i4 i13 => ?_) (by rw [hτ, z_up_same]) rfl rfl rfl rfl (fun c c5 => ?_) ⟨?_, fun i i0 i1 => ?_⟩)
      · rw [hτ, z_up_ne _ (Or.inr i13), z_up_ne _ (Or.inr i4), z_up_far _ _ _ (by decide), z_up_far _ _ _ (by decide), z_up_far _ _ _ (by decide), z_up_far _ _ _ (by decide)]
      · unfold sg_add
        rw [rp_n _ _ (by omega), rp_n _ _ (by omega), rp_n _ _ (by omega), rp_n _ _ (by omega), rp_n _ _ (by omega)]
      · rw [hτ, z_up_ne _ (Or.inr (by decide)), z_up_same]; rfl
      · have i1 : i < α 0 0 + 1 := i1
        have r1 : τ 216 = fu (σ 216) (α 0 0) x := by rw [hτ, z_up_far _ _ _ (by decide), z_up_far _ _ _ (by decide), z_up_far _ _ _ (by decide), z_up_far _ _ _ (by decide), z_up_far _ _ _ (by decide), z_up_row]
        have r2 : τ 217 = fu (σ 217) (α 0 0) y := by rw [hτ, z_up_far _ _ _ (by decide), z_up_far _ _ _ (by decide), z_up_far _ _ _ (by decide), z_up_far _ _ _ (by decide), z_up_row, z_up_far _ _ _ (by decide)]
        have r3 : τ 218 = fu (σ 218) (α 0 0) n := by rw [hτ, z_up_far _ _ _ (by decide), z_up_far _ _ _ (by decide), z_up_far _ _ _ (by decide), z_up_row, z_up_far _ _ _ (by decide), z_up_far _ _ _ (by decide)]
        have r4 : τ 219 = fu (σ 219) (α 0 0) d := by rw [hτ, z_up_far _ _ _ (by decide), z_up_far _ _ _ (by decide), z_up_row, z_up_far _ _ _ (by decide), z_up_far _ _ _ (by decide), z_up_far _ _ _ (by decide)]
        rw [r1, r2, r3, r4]
        show fu (σ 216) (α 0 0) x i = fu (α 1) (α 0 0) x i ∧ fu (σ 217) (α 0 0) y i = fu (α 2) (α 0 0) y i ∧ fu (σ 218) (α 0 0) n i = fu (α 3) (α 0 0) n i ∧ fu (σ 219) (α 0 0) d i = fu (α 4) (α 0 0) d i
        by_cases w : i = α 0 0
        · subst w; rw [fu_s, fu_s, fu_s, fu_s, fu_s, fu_s, fu_s, fu_s]; exact ⟨rfl, rfl, rfl, rfl⟩
        · rw [fu_n _ _ w, fu_n _ _ w, fu_n _ _ w, fu_n _ _ w, fu_n _ _ w, fu_n _ _ w, fu_n _ _ w, fu_n _ _ w]; exact g3 i i0 (by omega)
    | succ l ih =>
      intro i i0 hi hno
      have gi := g3 i i0 (by omega)
      have oi := ok.g i i0 (by omega)
      have nx : ¬ (α 1 i = x ∧ α 2 i = y) → Z X (rX12_see zN) mX12_see 73 [(2, 211), (0, x), (0, y), (0, n), (0, d), (0, (i + 1))] [] zN σ (zQi T) := fun w => ih (i + 1) (by omega) (by omega) (fun j j0 j1 => by
        by_cases q : j = i
        · subst q; exact w
        · exact hno j j0 (by omega))
      refine bk_X12_see_73 ⟨by constructor <;> omega, by rw [g2]; constructor <;> omega, fun q => absurd q (by omega), fun _ => ⟨hf, i0, by omega, by rw [gi.1]; constructor <;> omega, hx, fun q => nx (fun w => q (gi.1.trans w.1)), fun q => ⟨by rw [gi.2.1]; constructor <;> omega, hy, fun q2 => nx (fun w => q2 (gi.2.1.trans w.2)), fun q2 => bad (-9) ?_ (by decide)⟩⟩⟩
      have e : tkb (α 1) (α 2) x y (α 0 0).toNat = true := tkb_iff.mpr ⟨i, i0, by omega, by rw [← gi.1]; exact q, by rw [← gi.2.1]; exact q2⟩
      unfold o_see; rw [if_neg inr, if_neg (by omega), if_pos e]
  exact loop (α 0 0).toNat 0 (Int.le_refl _) (by omega) (fun j _ _ => by omega)
