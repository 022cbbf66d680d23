def tkb (f g : Int → Int) (x y : Int) : Nat → Bool
  | 0 => false
  | n + 1 => tkb f g x y n || (decide (f n = x) && decide (g n = y))
theorem tkb_iff {f g : Int → Int} {x y : Int} : ∀ {n : Nat}, tkb f g x y n = true ↔ ∃ i : Int, 0 ≤ i ∧ i < n ∧ f i = x ∧ g i = y
  | 0 => ⟨fun q => (by cases q), fun ⟨i, h0, h1, _⟩ => by omega⟩
  | n + 1 => by
    show (tkb f g x y n || (decide (f n = x) && decide (g n = y))) = true ↔ _
    rw [Bool.or_eq_true, Bool.and_eq_true, decide_eq_true_iff, decide_eq_true_iff, tkb_iff]
    constructor
    · rintro (⟨i, h0, h1, h2⟩ | ⟨h1, h2⟩)
      · exact ⟨i, h0, by omega, h2⟩
      · exact ⟨n, by omega, by omega, h1, h2⟩
    · rintro ⟨i, h0, h1, h2⟩
      by_cases w : i = n
      · subst w; exact Or.inr h2
      · exact Or.inl ⟨i, h0, by omega, h2⟩
theorem tkb_congr {f g f' g' : Int → Int} {x y : Int} {n : Nat} (h : ∀ i : Int, 0 ≤ i → i < n → f i = f' i ∧ g i = g' i) : tkb f g x y n = tkb f' g' x y n := by
  rw [Bool.eq_iff_iff, tkb_iff, tkb_iff]
  constructor
  · rintro ⟨i, h0, h1, h2, h3⟩
    exact ⟨i, h0, h1, (h i h0 h1).1 ▸ h2, (h i h0 h1).2 ▸ h3⟩
  · rintro ⟨i, h0, h1, h2, h3⟩
    exact ⟨i, h0, h1, (h i h0 h1).1.symm ▸ h2, (h i h0 h1).2.symm ▸ h3⟩
theorem sl {s : Int} (h : s = 199 ∨ s = 205) : z_l s = (7, 3) ∧ z_l (s + 1) = (6, 3) ∧ z_l (s + 2) = (20, 8) ∧ z_l (s + 3) = (20, 8) ∧ z_l (s + 4) = (20, 8) ∧ z_l (s + 5) = (20, 8) := by
  rcases h with h | h <;> subst h
  · exact ⟨la_199, la_200, la_201, la_202, la_203, la_204⟩
  · exact ⟨la_205, la_206, la_207, la_208, la_209, la_210⟩
theorem c_phas {X : ZS} {σ : ZM} {T : Bool → ZM → Prop} {p i m : Int} (hp : z_l p = (6, 3)) (hi : r32 i) (hm : σ p 2 = m) (hr : r32 m) (h1 : 0 ≤ i → i < m → T true σ) (h0 : ¬ (0 ≤ i ∧ i < m) → T false σ) : ZC X (rX6_has zN) mX6_has [(2, p), (0, i)] zN σ (zQz T) :=
  bk_X6_has hp ⟨hi, fun q => h0 (by omega), fun q => ⟨by rw [hm]; exact hr, fun q2 => h0 (by omega), fun q2 => h1 (by omega) (by omega)⟩⟩
theorem c_pholds {X : ZS} {σ : ZM} {T : Bool → ZM → Prop} {p x y : Int} {m : Nat} (hp : z_l p = (6, 3)) (l1 : z_l (p + 1) = (20, 8)) (l2 : z_l (p + 2) = (20, 8)) (hf : Fix σ) (hx : r32 x) (hy : r32 y) (hm : σ p 2 = m) (m8 : m ≤ 8) (hr : ∀ i : Int, 0 ≤ i → i < m → r32 (σ (p + 1) i) ∧ r32 (σ (p + 2) i)) (h : T (tkb (σ (p + 1)) (σ (p + 2)) x y m) σ) : ZC X (rX6_holds zN) mX6_holds [(2, p), (0, x), (0, y)] zN σ (zQz T) := by
  have loop : ∀ (l : Nat) (i : Int), 0 ≤ i → i + l = m → (∀ j : Int, 0 ≤ j → j < i → ¬ (σ (p + 1) j = x ∧ σ (p + 2) j = y)) → Z X (rX6_holds zN) mX6_holds 2 [(2, p), (0, x), (0, y), (0, i)] [] zN σ (zQz T) := by
    intro l
    induction l with
    | zero =>
      intro i i0 hi hn
      refine bk_X6_holds_2 hp ⟨by constructor <;> omega, by rw [hm]; constructor <;> omega, fun _ => ?_, fun q => absurd q (by omega)⟩
      have e : tkb (σ (p + 1)) (σ (p + 2)) x y m = false := by
        apply Bool.eq_false_iff.mpr
        intro w
        obtain ⟨j, j0, j1, j2⟩ := tkb_iff.mp w
        exact hn j j0 (by omega) j2
      rw [e] at h; exact h
    | succ l ih =>
      intro i i0 hi hn
      have rr := hr i i0 (by omega)
      have nx : ¬ (σ (p + 1) i = x ∧ σ (p + 2) i = y) → Z X (rX6_holds zN) mX6_holds 2 [(2, p), (0, x), (0, y), (0, (i + 1))] [] zN σ (zQz T) := fun w => ih (i + 1) (by omega) (by omega) (fun j j0 j1 => by
        by_cases q : j = i
        · subst q; exact w
        · exact hn j j0 (by omega))
      refine bk_X6_holds_2 hp ⟨by constructor <;> omega, by rw [hm]; constructor <;> omega, fun q => absurd q (by omega), fun _ => ⟨hf, i0, by rw [l1]; show i < 8; omega, rr.1, hx, fun q => nx (fun w => q w.1), fun q => ⟨by rw [l2]; show i < 8; omega, rr.2, hy, fun q2 => nx (fun w => q2 w.2), fun q2 => ?_⟩⟩⟩
      have e : tkb (σ (p + 1)) (σ (p + 2)) x y m = true := tkb_iff.mpr ⟨i, i0, by omega, q, q2⟩
      rw [e] at h; exact h
  exact bk_X6_holds hp (loop m 0 (Int.le_refl _) (by omega) (fun j _ _ => by omega))
theorem c_isWithin {X : ZS} {σ : ZM} {T : Bool → ZM → Prop} {x a b : Int} (hx : r32 x) (ha : r32 a) (hb : r32 b) (h1 : a ≤ x → x ≤ b → T true σ) (h0 : ¬ (a ≤ x ∧ x ≤ b) → T false σ) : ZC X (rX11_isWithin zN) mX11_isWithin [(0, x), (0, a), (0, b)] zN σ (zQz T) :=
  bk_X11_isWithin ⟨hx, ha, fun q => h0 (by omega), fun q => ⟨hb, fun q2 => h0 (by omega), fun q2 => h1 (by omega) (by omega)⟩⟩
def isP (x y : Int) : Prop := -20 ≤ x ∧ x ≤ 20 ∧ -20 ≤ y ∧ y ≤ 20
theorem c_isPlace {X : ZS} {σ : ZM} {T : Bool → ZM → Prop} {x y : Int} (hx : r32 x) (hy : r32 y) (h1 : isP x y → T true σ) (h0 : ¬ isP x y → T false σ) : ZC X (rX11_isPlace zN) mX11_isPlace [(0, x), (0, y)] zN σ (zQz T) :=
  bk_X11_isPlace (c_isWithin hx (by decide) (by decide) (fun a b => ⟨fun q => (by cases q), fun _ => c_isWithin hy (by decide) (by decide) (fun c d => ⟨fun q => (by cases q), fun _ => h1 ⟨a, b, c, d⟩⟩) (fun q => ⟨fun _ => h0 (fun w => q ⟨w.2.2.1, w.2.2.2⟩), fun q => (by cases q)⟩)⟩) (fun q => ⟨fun _ => h0 (fun w => q ⟨w.1, w.2.1⟩), fun q => (by cases q)⟩))
/-- what is SEEN changes; no answer is left -/
theorem CS.sights {σ σ' α α' : ZM} (h : CS σ α) (hf : Fix σ') (o : ∀ c : Int, c ≠ 141 → (c < σ 1 11 + 1 ∨ σ 1 11 + 5 < c) → σ' c = σ c) (h6 : σ' 141 6 = 0) (a4 : α' 0 4 = 0) (a1 : α' 0 1 = α 0 1) (a2 : α' 0 2 = α 0 2) (a3 : α' 0 3 = α 0 3) (a : ∀ c : Int, 5 ≤ c → α' c = α c) (sg : SG σ' (σ 1 11) α') : CS σ' α' := by
  obtain ⟨b, l, g, w, m, an, r⟩ := h
  have g1 := g.1
  have oc : ∀ c : Int, c ≠ 141 → c < 199 → σ' c = σ c := fun c hc h2 => o c hc (by omega)
  have e1 := oc 1 (by decide) (by decide)
  refine ⟨b.fr hf (fun c _ _ hc => oc c hc (by omega)), l.fr (oc 3 (by decide) (by decide)) (oc 4 (by decide) (by decide)) (oc 5 (by decide) (by decide)) (a 6 (by decide)) (a 7 (by decide)) (a 8 (by decide)), ⟨by rw [e1]; exact g1, by rw [e1]; exact sg⟩, w.fr (by rw [oc 6 (by decide) (by decide)]) (oc 7 (by decide) (by decide)) a1 (a 5 (by decide)), ⟨by rw [e1, a2]; exact m.1, by rw [e1, a3]; exact m.2.1, by rw [h6, a4]⟩, CA.none a4, r.fr (fun c _ _ => oc c (by omega) (by omega)) (a 11 (by decide))⟩
def o_see (α : ZM) (x y n d : Int) : Int := if ¬ (-20 ≤ x ∧ x ≤ 20 ∧ -20 ≤ y ∧ y ≤ 20 ∧ -1000 ≤ n ∧ n ≤ 1000 ∧ 0 ≤ d ∧ d ≤ 100) then -4 else if α 0 0 = 8 then -8 else if tkb (α 1) (α 2) x y (α 0 0).toNat then -9 else α 0 0
def sg_add (α : ZM) (x y n d : Int) : ZM := rp (rp (rp (rp (rp α 1 (fu (α 1) (α 0 0) x)) 2 (fu (α 2) (α 0 0) y)) 3 (fu (α 3) (α 0 0) n)) 4 (fu (α 4) (α 0 0) d)) 0 (fu (fu (α 0) 0 (α 0 0 + 1)) 4 0)
def s_see (α : ZM) (x y n d : Int) : ZM := if 0 ≤ o_see α x y n d then sg_add α x y n d else α
theorem ok_see {α : ZM} {x y n d : Int} (ok : Ok α) : Ok (s_see α x y n d) := by
  unfold s_see
  split
  · rename_i h
    unfold o_see at h
    have s := ok.s
    split at h
    · omega
    · rename_i q
      split at h
      · omega
      · rename_i q2
        refine ⟨?_, ok.l, ok.u, ok.n, Or.inl rfl, ?_, ok.w, ok.e, ok.r⟩
        · show 0 ≤ α 0 0 + 1 ∧ α 0 0 + 1 ≤ 8
          omega
        · intro i i0 i1
          have i1 : i < α 0 0 + 1 := i1
          show (-20 ≤ fu (α 1) (α 0 0) x i ∧ fu (α 1) (α 0 0) x i ≤ 20) ∧ (-20 ≤ fu (α 2) (α 0 0) y i ∧ fu (α 2) (α 0 0) y i ≤ 20) ∧ (-1000 ≤ fu (α 3) (α 0 0) n i ∧ fu (α 3) (α 0 0) n i ≤ 1000) ∧ (0 ≤ fu (α 4) (α 0 0) d i ∧ fu (α 4) (α 0 0) d i ≤ 100)
          by_cases w : i = α 0 0
          · subst w; rw [fu_s, fu_s, fu_s, fu_s]; omega
          · rw [fu_n _ _ w, fu_n _ _ w, fu_n _ _ w, fu_n _ _ w]; exact ok.g i i0 (by omega)
  · exact ok
theorem fu_far (f : Int → Int) {i j : Int} (x : Int) (h : j ≠ i) : fu f i x j = f j := fu_n f x h
theorem b_see {X : ZS} {σ α : ZM} {T : Int → ZM → Prop} {x y n d : Int} (hx : r32 x) (hy : r32 y) (hn : r32 n) (hd : r32 d) (cs : CS σ α) (ok : Ok α) (h : ∀ σ', Ou 1 210 σ σ' → CS σ' (s_see α x y n d) → T (o_see α x y n d) σ') : ZC X (rX11_see zN) mX11_see [(2, 1), (0, x), (0, y), (0, n), (0, d)] zN σ (zQi T) := by
  have hf := cs.fix
  have s8 := ok.s
  have bad : ∀ e, o_see α x y n d = e → e < 0 → T e σ := fun e he q => by
    unfold s_see at h; rw [he, if_neg (by omega)] at h; exact h σ Ou.rfl' cs
  have no4 : ¬ (-20 ≤ x ∧ x ≤ 20 ∧ -20 ≤ y ∧ y ≤ 20 ∧ -1000 ≤ n ∧ n ≤ 1000 ∧ 0 ≤ d ∧ d ≤ 100) → T (-4) σ := fun q => bad (-4) (by unfold o_see; rw [if_pos q]) (by decide)
  obtain ⟨g1, g2, g3⟩ := cs.2.2.1
  obtain ⟨s, hs⟩ : ∃ s, s = σ 1 11 := ⟨_, rfl⟩
  have z := sl (s := s) (by omega)
  rw [← hs] at g2 g3
  have e1 : s + 1 + 1 = s + 2 := by omega
  have e2 : s + 1 + 2 = s + 3 := by omega
  refine bk_X11_see (c_isPlace hx hy (fun p => ⟨fun q => (by cases q), fun _ => c_isWithin hn (by decide) (by decide) (fun n1 n2 => ⟨fun q => (by cases q), fun _ => c_isWithin hd (by decide) (by decide) (fun d1 d2 => ⟨fun _ => ?_, fun q => (by cases q)⟩) (fun q => ⟨fun q => (by cases q), fun _ => no4 (fun w => q w.2.2.2.2.2.2)⟩)⟩) (fun q => ⟨fun _ => no4 (fun w => q ⟨w.2.2.2.2.1, w.2.2.2.2.2.1⟩), fun q => (by cases q)⟩)⟩) (fun q => ⟨fun _ => no4 (fun w => q ⟨w.1, w.2.1, w.2.2.1, w.2.2.2.1⟩), fun q => (by cases q)⟩))
  have inr : ¬ ¬ (-20 ≤ x ∧ x ≤ 20 ∧ -20 ≤ y ∧ y ≤ 20 ∧ -1000 ≤ n ∧ n ≤ 1000 ∧ 0 ≤ d ∧ d ≤ 100) := fun q => q ⟨p.1, p.2.1, p.2.2.1, p.2.2.2, n1, n2, d1, d2⟩
  rw [← hs]
  refine ⟨z.1, hf, by rw [g2]; constructor <;> omega, fun q => ?_, fun q => bad (-8) (by unfold o_see; rw [if_neg inr, if_pos (by omega)]) (by decide)⟩
  refine c_pholds (m := (α 0 0).toNat) z.2.1 (by rw [e1]; exact z.2.2.1) (by rw [e2]; exact z.2.2.2.1) hf hx hy (by omega) (by omega) (fun i i0 i1 => by
    have a := g3 i i0 (by omega)
    have b := ok.g i i0 (by omega)
    rw [e1, e2, a.1, a.2.1]
    exact ⟨by constructor <;> omega, by constructor <;> omega⟩) ?_
  rw [e1, e2, tkb_congr (f' := α 1) (g' := α 2) (fun i i0 i1 => ⟨(g3 i i0 (by omega)).1, (g3 i i0 (by omega)).2.1⟩)]
  refine ⟨fun q2 => ?_, fun q2 => bad (-9) (by unfold o_see; rw [if_neg inr, if_neg (by omega), if_pos q2]) (by decide)⟩
  have eo : o_see α x y n d = α 0 0 := by unfold o_see; rw [if_neg inr, if_neg (by omega), q2]; rfl
  unfold s_see at h
  rw [eo, if_pos s8.1] at h
  rw [← hs]
  refine ⟨z.1, bk_X7_add z.1 ⟨hf, by rw [g2]; constructor <;> omega, fun q3 => absurd q3 (by omega), fun _ => bk_X6_add z.2.1 ⟨hf, by rw [g2]; constructor <;> omega, by rw [e1, z.2.2.1]; decide, fun q3 => ?_, fun q3 => ⟨by omega, by rw [e1, z.2.2.1]; show σ (s + 1) 2 < 8; omega, by rw [e2, z.2.2.2.1]; show σ (s + 1) 2 < 8; omega, ?_⟩⟩⟩⟩
  · rw [e1, z.2.2.1] at q3
    have : (8 : Int) ≤ σ (s + 1) 2 := q3
    omega
  · rw [e1, e2, g2]
    obtain ⟨τ, hτ⟩ : ∃ τ : ZM, τ = z_up (z_up (z_up σ (s + 2) (α 0 0) x) (s + 3) (α 0 0) y) (s + 1) 2 (α 0 0 + 1) := ⟨_, rfl⟩
    rw [← hτ]
    have f1 : Fix τ := by rw [hτ]; exact ((hf.upA z.2.2.1 (by decide)).upA z.2.2.2.1 (by decide)).upF z.2.1 2 (by decide +kernel)
    obtain ⟨τ2, hτ2⟩ : ∃ τ2 : ZM, τ2 = z_up (z_up τ (s + 4) (α 0 0) n) (s + 5) (α 0 0) d := ⟨_, rfl⟩
    rw [← hτ2]
    have f2 : Fix τ2 := by rw [hτ2]; exact (f1.upA z.2.2.2.2.1 (by decide)).upA z.2.2.2.2.2 (by decide)
    have far : ∀ c : Int, c < s + 1 ∨ s + 5 < c → τ2 c = σ c := fun c hc => by
      rw [hτ2, hτ, z_up_far _ _ _ (by omega), z_up_far _ _ _ (by omega), z_up_far _ _ _ (by omega), z_up_far _ _ _ (by omega), z_up_far _ _ _ (by omega)]
    have r1 : τ2 (s + 1) 2 = α 0 0 + 1 := by rw [hτ2, z_up_far _ _ _ (by omega), z_up_far _ _ _ (by omega), hτ, z_up_same]
    have r2 : τ2 (s + 2) = fu (σ (s + 2)) (α 0 0) x := by rw [hτ2, z_up_far _ _ _ (by omega), z_up_far _ _ _ (by omega), hτ, z_up_far _ _ _ (by omega), z_up_far _ _ _ (by omega), z_up_row]
    have r3 : τ2 (s + 3) = fu (σ (s + 3)) (α 0 0) y := by rw [hτ2, z_up_far _ _ _ (by omega), z_up_far _ _ _ (by omega), hτ, z_up_far _ _ _ (by omega), z_up_row, z_up_far _ _ _ (by omega)]
    have r4 : τ2 (s + 4) = fu (σ (s + 4)) (α 0 0) n := by rw [hτ2, z_up_far _ _ _ (by omega), z_up_row, hτ, z_up_far _ _ _ (by omega), z_up_far _ _ _ (by omega), z_up_far _ _ _ (by omega)]
    have r5 : τ2 (s + 5) = fu (σ (s + 5)) (α 0 0) d := by rw [hτ2, z_up_row, z_up_far _ _ _ (by omega), hτ, z_up_far _ _ _ (by omega), z_up_far _ _ _ (by omega), z_up_far _ _ _ (by omega)]
    have t11 : τ2 1 11 = s := by rw [far 1 (by omega), hs]
    refine ⟨f1, s8.1, by omega, f2, ?_⟩
    rw [t11]
    refine ⟨z.1, ?_⟩
    rw [r1]
    have hh := h (z_up τ2 141 6 0) (fun c hc => by rw [z_up_far _ _ _ (by omega), far c (by omega)]) (cs.sights (f2.upF la_141 6 (by decide +kernel)) (fun c c1 c2 => by rw [z_up_far _ _ _ c1, far c (by omega)]) (z_up_same _ _ _ _) rfl rfl rfl rfl (fun c c5 => ?_) ?_)
    · rw [show α 0 0 + 1 - 1 = α 0 0 by omega]; exact hh
    · unfold sg_add
      rw [rp_n _ _ (by omega), rp_n _ _ (by omega), rp_n _ _ (by omega), rp_n _ _ (by omega), rp_n _ _ (by omega)]
    · rw [← hs]
      refine ⟨by rw [z_up_far _ _ _ (by omega), r1]; rfl, fun i i0 i1 => ?_⟩
      have i1 : i < α 0 0 + 1 := i1
      rw [z_up_far _ _ _ (by omega), z_up_far _ _ _ (by omega), z_up_far _ _ _ (by omega), z_up_far _ _ _ (by omega), r2, r3, r4, r5]
      show fu (σ (s + 2)) (α 0 0) x i = fu (α 1) (α 0 0) x i ∧ fu (σ (s + 3)) (α 0 0) y i = fu (α 2) (α 0 0) y i ∧ fu (σ (s + 4)) (α 0 0) n i = fu (α 3) (α 0 0) n i ∧ fu (σ (s + 5)) (α 0 0) d i = fu (α 4) (α 0 0) d i
      by_cases w : i = α 0 0
      · subst w; rw [fu_s, fu_s, fu_s, fu_s, fu_s, fu_s, fu_s, fu_s]; exact ⟨rfl, rfl, rfl, rfl⟩
      · rw [fu_n _ _ w, fu_n _ _ w, fu_n _ _ w, fu_n _ _ w, fu_n _ _ w, fu_n _ _ w, fu_n _ _ w, fu_n _ _ w]; exact g3 i i0 (by omega)
