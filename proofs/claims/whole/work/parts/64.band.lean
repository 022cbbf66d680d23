def wyp (a b c d : Int) : Int := ((a - c).natAbs : Int) + ((b - d).natAbs : Int)
def wy (α : ZM) (i j : Int) : Int := wyp (α 1 i) (α 2 i) (α 1 j) (α 2 j)
theorem wyp_r {a b c d : Int} (ha : -20 ≤ a ∧ a ≤ 20) (hb : -20 ≤ b ∧ b ≤ 20) (hc : -20 ≤ c ∧ c ≤ 20) (hd : -20 ≤ d ∧ d ≤ 20) : 0 ≤ wyp a b c d ∧ wyp a b c d ≤ 80 := by unfold wyp; omega
theorem wy_r {α : ZM} {i j : Int} (ok : Ok α) (i0 : 0 ≤ i) (i1 : i < α 0 0) (j0 : 0 ≤ j) (j1 : j < α 0 0) : 0 ≤ wy α i j ∧ wy α i j ≤ 80 := wyp_r (ok.g i i0 i1).1 (ok.g i i0 i1).2.1 (ok.g j j0 j1).1 (ok.g j j0 j1).2.1
/-- places by their cell: m of n -/
def PL (σ : ZM) (p : Int) (n m : Nat) (f g : Int → Int) : Prop := z_l p = (6, 3) ∧ z_l (p + 1) = (20, n) ∧ z_l (p + 2) = (20, n) ∧ σ p 2 = m ∧ m ≤ n ∧ n ≤ 8 ∧ ∀ i : Int, 0 ≤ i → i < m → σ (p + 1) i = f i ∧ σ (p + 2) i = g i ∧ (-20 ≤ f i ∧ f i ≤ 20) ∧ (-20 ≤ g i ∧ g i ≤ 20)
theorem c_wayTo {X : ZS} {σ : ZM} {T : Int → ZM → Prop} {p i x y : Int} {n m : Nat} {f g : Int → Int} (P : PL σ p n m f g) (hf : Fix σ) (i0 : 0 ≤ i) (i1 : i < m) (hx : -20 ≤ x ∧ x ≤ 20) (hy : -20 ≤ y ∧ y ≤ 20) (h : T (wyp (f i) (g i) x y) σ) : ZC X (rX6_wayTo zN) mX6_wayTo [(2, p), (0, i), (0, x), (0, y)] zN σ (zQi T) := by
  obtain ⟨hp, l1, l2, hm, mn, n8, hr⟩ := P
  have r := hr i i0 i1
  refine bk_X6_wayTo hp (c_phas hp (by constructor <;> omega) hm (by constructor <;> omega) (fun _ _ => ⟨fun q => (by cases q), fun _ => ?_⟩) (fun q => absurd ⟨i0, i1⟩ q))
  rw [r.1, r.2.1]
  exact ⟨hf, i0, by rw [l1]; show i < n; omega, by constructor <;> omega, by omega, by rw [l2]; show i < n; omega, by constructor <;> omega, by omega, h⟩
theorem c_way {X : ZS} {σ : ZM} {T : Int → ZM → Prop} {p i j : Int} {n m : Nat} {f g : Int → Int} (P : PL σ p n m f g) (hf : Fix σ) (i0 : 0 ≤ i) (i1 : i < m) (j0 : 0 ≤ j) (j1 : j < m) (h : T (wyp (f i) (g i) (f j) (g j)) σ) : ZC X (rX6_way zN) mX6_way [(2, p), (0, i), (0, j)] zN σ (zQi T) := by
  have P' := P
  obtain ⟨hp, l1, l2, hm, mn, n8, hr⟩ := P'
  have r := hr j j0 j1
  refine bk_X6_way hp (c_phas hp (by constructor <;> omega) hm (by constructor <;> omega) (fun _ _ => ⟨fun q => (by cases q), fun _ => ?_⟩) (fun q => absurd ⟨j0, j1⟩ q))
  rw [r.1, r.2.1]
  exact ⟨hf, j0, by rw [l1]; show j < n; omega, by rw [l2]; show j < n; omega, c_wayTo P hf i0 i1 r.2.2.1 r.2.2.2 h⟩
theorem CG.pl {σ α : ZM} (g : CG σ α) (ok : Ok α) : z_l (σ 1 11) = (7, 3) ∧ PL σ (σ 1 11 + 1) 8 (α 0 0).toNat (α 1) (α 2) := by
  obtain ⟨g1, g2, g3⟩ := g
  have z := sl (s := σ 1 11) (by omega)
  have s8 := ok.s
  have e1 : σ 1 11 + 1 + 1 = σ 1 11 + 2 := by omega
  have e2 : σ 1 11 + 1 + 2 = σ 1 11 + 3 := by omega
  refine ⟨z.1, z.2.1, by rw [e1]; exact z.2.2.1, by rw [e2]; exact z.2.2.2.1, by omega, by omega, by decide, fun i i0 i1 => ?_⟩
  rw [e1, e2]
  have a := g3 i i0 (by omega)
  have b := ok.g i i0 (by omega)
  exact ⟨a.1, a.2.1, b.1, b.2.1⟩
theorem m_size {X : ZS} {σ : ZM} {T : Int → ZM → Prop} {x : Int} (hx : r32 x) (h : T (x.natAbs : Int) σ) : ZC X (rX12_size zN) mX12_size [(0, x)] zN σ (zQi T) :=
  bk_X12_size ⟨hx, fun q => (by rw [show ((x.natAbs : Nat) : Int) = x by omega] at h; exact h), fun q => (by rw [show ((x.natAbs : Nat) : Int) = -x by omega] at h; exact h)⟩
theorem m_way {X : ZS} {σ : ZM} {T : Int → ZM → Prop} {a b c d : Int} (ha : -20 ≤ a ∧ a ≤ 20) (hb : -20 ≤ b ∧ b ≤ 20) (hc : -20 ≤ c ∧ c ≤ 20) (hd : -20 ≤ d ∧ d ≤ 20) (h : T (wyp a b c d) σ) : ZC X (rX12_way zN) mX12_way [(0, a), (0, b), (0, c), (0, d)] zN σ (zQi T) :=
  bk_X12_way (m_size (by constructor <;> omega) (m_size (by constructor <;> omega) h))
/-! pairs, band -/
def cnI (α : ZM) (f t i : Int) : Nat → Int
  | 0 => 0
  | j + 1 => cnI α f t i j + (if f ≤ wy α i j ∧ wy α i j ≤ t then 1 else 0)
def cnA (α : ZM) (f t : Int) : Nat → Int
  | 0 => 0
  | i + 1 => cnA α f t i + cnI α f t i i
def sqI (α : ZM) (f t i : Int) : Nat → Int
  | 0 => 0
  | j + 1 => sqI α f t i j + (if f ≤ wy α i j ∧ wy α i j ≤ t then (α 3 i - α 3 j) * (α 3 i - α 3 j) else 0)
def sqA (α : ZM) (f t : Int) : Nat → Int
  | 0 => 0
  | i + 1 => sqA α f t i + sqI α f t i i
theorem cnI_r {α : ZM} {f t i : Int} : ∀ j : Nat, 0 ≤ cnI α f t i j ∧ cnI α f t i j ≤ j
  | 0 => ⟨Int.le_refl _, Int.le_refl _⟩
  | j + 1 => by
    have := cnI_r (α := α) (f := f) (t := t) (i := i) j
    show 0 ≤ cnI α f t i j + _ ∧ cnI α f t i j + _ ≤ _
    split <;> omega
theorem cnA_r {α : ZM} {f t : Int} : ∀ i : Nat, i ≤ 8 → 0 ≤ cnA α f t i ∧ cnA α f t i ≤ 8 * i
  | 0, _ => ⟨Int.le_refl _, Int.le_refl _⟩
  | i + 1, h => by
    have := cnA_r (α := α) (f := f) (t := t) i (by omega)
    have := cnI_r (α := α) (f := f) (t := t) (i := i) i
    show 0 ≤ cnA α f t i + cnI α f t i i ∧ cnA α f t i + cnI α f t i i ≤ _
    omega
theorem sq_r {a b : Int} (ha : -1000 ≤ a ∧ a ≤ 1000) (hb : -1000 ≤ b ∧ b ≤ 1000) : 0 ≤ (a - b) * (a - b) ∧ (a - b) * (a - b) ≤ 4000000 := by
  have h := z_pb (x := a - b) (y := a - b) (A := 2000) (F := 2000) (by omega) (by omega) (by omega) (by omega) (by decide)
  refine ⟨?_, by omega⟩
  rcases Int.le_total 0 (a - b) with w | w
  · exact Int.mul_nonneg w w
  · exact Int.mul_nonneg_of_nonpos_of_nonpos w w
theorem sqI_r {α : ZM} {f t i : Int} (ok : Ok α) (i0 : 0 ≤ i) (i1 : i < α 0 0) : ∀ j : Nat, (j : Int) ≤ α 0 0 → 0 ≤ sqI α f t i j ∧ sqI α f t i j ≤ 4000000 * j
  | 0, _ => ⟨Int.le_refl _, Int.le_refl _⟩
  | j + 1, h => by
    have := sqI_r (f := f) (t := t) ok i0 i1 j (by omega)
    have r := sq_r (ok.g i i0 i1).2.2.1 (ok.g j (by omega) (by omega)).2.2.1
    show 0 ≤ sqI α f t i j + _ ∧ sqI α f t i j + _ ≤ _
    split <;> omega
theorem sqA_r {α : ZM} {f t : Int} (ok : Ok α) : ∀ i : Nat, (i : Int) ≤ α 0 0 → 0 ≤ sqA α f t i ∧ sqA α f t i ≤ 32000000 * i
  | 0, _ => ⟨Int.le_refl _, Int.le_refl _⟩
  | i + 1, h => by
    have := sqA_r (f := f) (t := t) ok i (by omega)
    have := sqI_r (f := f) (t := t) ok (i := i) (by omega) (by omega) i (by omega)
    have := ok.s
    show 0 ≤ sqA α f t i + sqI α f t i i ∧ sqA α f t i + sqI α f t i i ≤ _
    omega
theorem b_pairs {X : ZS} {σ α : ZM} {T : Int → ZM → Prop} {f t : Int} (rf : r32 f) (rt : r32 t) (cs : CS σ α) (ok : Ok α) (h : T (cnA α f t (α 0 0).toNat) σ) : ZC X (rX11_pairs zN) mX11_pairs [(2, 1), (0, f), (0, t)] zN σ (zQi T) := by
  have hf := cs.fix
  have s8 := ok.s
  have g := cs.2.2.1
  have pl := g.pl ok
  have gz := g.2.1
  have outer : ∀ (l i : Nat), (i : Int) + l = α 0 0 → Z X (rX11_pairs zN) mX11_pairs 5 [(2, 1), (0, f), (0, t), (0, cnA α f t i), (0, (i : Int)), (9, 0)] [] zN σ (zQi T) := by
    intro l
    induction l with
    | zero =>
      intro i hi
      have e : (α 0 0).toNat = i := by omega
      rw [e] at h
      exact bk_X11_pairs_5 ⟨pl.1, hf, by constructor <;> omega, by rw [gz]; constructor <;> omega, fun _ => h, fun q => absurd (by omega) q⟩
    | succ l ih =>
      intro i hi
      have inner : ∀ (d j : Nat), j + d = i → Z X (rX11_pairs zN) mX11_pairs 23 [(2, 1), (0, f), (0, t), (0, cnA α f t i + cnI α f t i j), (0, (i : Int)), (0, (j : Int))] [] zN σ (zQi T) := by
        intro d
        induction d with
        | zero =>
          intro j hj
          have : j = i := by omega
          subst this
          exact bk_X11_pairs_23 ⟨by constructor <;> omega, by constructor <;> omega, fun _ => ih (j + 1) (by omega), fun q => absurd (Int.le_refl _) q⟩
        | succ d ih2 =>
          intro j hj
          have wr := wy_r ok (i := i) (j := j) (by omega) (by omega) (by omega) (by omega)
          refine bk_X11_pairs_23 ⟨by constructor <;> omega, by constructor <;> omega, fun q => absurd q (by omega), fun _ => ⟨pl.1, hf, c_way pl.2 hf (by omega) (by omega) (by omega) (by omega) ?_⟩⟩
          have nx := ih2 (j + 1) (by omega)
          have ec : cnI α f t i (j + 1) = cnI α f t i j + (if f ≤ wy α i j ∧ wy α i j ≤ t then 1 else 0) := rfl
          refine c_isWithin (x := wy α i j) (by constructor <;> omega) rf rt (fun w1 w2 => ⟨fun q => (by cases q), fun _ => ?_⟩) (fun q => ⟨fun _ => ?_, fun q => (by cases q)⟩)
          · rw [ec, if_pos ⟨w1, w2⟩, ← Int.add_assoc] at nx; exact nx
          · rw [ec, if_neg q, Int.add_zero] at nx; exact nx
      have := inner i 0 (by omega)
      rw [show cnA α f t i + cnI α f t i 0 = cnA α f t i from Int.add_zero _] at this
      exact bk_X11_pairs_5 ⟨pl.1, hf, by constructor <;> omega, by rw [gz]; constructor <;> omega, fun q => absurd q (by omega), fun _ => this⟩
  exact bk_X11_pairs (outer (α 0 0).toNat 0 (by omega))
def o_band (α : ZM) (f t : Int) : Bool := decide (cnA α f t (α 0 0).toNat ≠ 0)
theorem b_band {X : ZS} {σ α : ZM} {T : Bool → ZM → Prop} {f t : Int} (rf : r32 f) (rt : r32 t) (cs : CS σ α) (ok : Ok α) (h0 : cnA α f t (α 0 0).toNat = 0 → T false σ) (h1 : cnA α f t (α 0 0).toNat ≠ 0 → ∀ σ' u v, Ou 1 210 σ σ' → CS σ' (s_res α u v) → lowt (sqA α f t (α 0 0).toNat) (2 * cnA α f t (α 0 0).toNat) u v → T true σ') : ZC X (rX11_band zN) mX11_band [(2, 1), (0, f), (0, t)] zN σ (zQz T) := by
  have hf := cs.fix
  have s8 := ok.s
  have g := cs.2.2.1
  have pl := g.pl ok
  have gz := g.2.1
  have gr := g.2.2
  have cr := cnA_r (α := α) (f := f) (t := t) (α 0 0).toNat (by omega)
  refine bk_X11_band (b_pairs rf rt cs ok ⟨by constructor <;> omega, fun nz => ?_, fun q => h0 q⟩)
  obtain ⟨C, hC⟩ : ∃ C, C = cnA α f t (α 0 0).toNat := ⟨_, rfl⟩
  rw [← hC]
  rw [← hC] at h1 nz cr
  have outer : ∀ (l i : Nat), (i : Int) + l = α 0 0 → Z X (rX11_band zN) mX11_band 19 [(2, 1), (0, f), (0, t), (0, C), (1, sqA α f t i), (9, 0), (0, (i : Int)), (9, 0), (9, 0), (9, 0)] [] zN σ (zQz T) := by
    intro l
    induction l with
    | zero =>
      intro i hi
      have e : (α 0 0).toNat = i := by omega
      rw [e] at h1
      have sr := sqA_r (f := f) (t := t) ok i (by omega)
      refine bk_X11_band_19 ⟨pl.1, hf, by constructor <;> omega, by rw [gz]; constructor <;> omega, fun _ => ?_, fun q => absurd (by omega) q⟩
      refine c_putW la_185 hf (cs.1.2.1 _ la_185) (by constructor <;> omega) (by omega) (fun σ6 o6 w6 v6 => ?_)
      have f6 := o6.fix la_185 hf
      have A6 := o6.aw la_185 w6 cs.1.2.1
      refine ⟨f6, by constructor <;> omega, c_putW la_187 f6 (A6 _ la_187) (by constructor <;> omega) (by omega) (fun σ10 o10 w10 v10 => ?_)⟩
      have f10 := o10.fix la_187 f6
      have A10 := o10.aw la_187 w10 A6
      have oo : Ou 184 188 σ σ10 := (Ou.ofW o6 (by decide) (by decide)).trans (Ou.ofW o10 (by decide) (by decide))
      have b10 : CB σ10 := ⟨f10, A10, by rw [oo 17 (by decide)]; exact cs.1.2.2.1, fun i i0 i1 => by rw [oo 142 (by decide)]; exact cs.1.2.2.2 i i0 i1⟩
      have cs10 : CS σ10 α := cs.tmp b10 (fun c hc => oo c (by have := g.1; omega))
      have v1 : wv σ10 185 = sqA α f t i := by rw [o10.val la_187 la_185 (by decide), v6]
      refine ⟨f10, b_setRes la_185 la_187 (by decide) (by decide) cs10 (by rw [v10]; omega) (fun σ' u v o' c' lt => ?_)⟩
      rw [v1, v10] at lt
      exact h1 nz σ' u v ((oo.mono (by decide) (by decide)).trans o') c' lt
    | succ l ih =>
      intro i hi
      have inner : ∀ (d j : Nat), j + d = i → Z X (rX11_band zN) mX11_band 37 [(2, 1), (0, f), (0, t), (0, C), (1, sqA α f t i + sqI α f t i j), (9, 0), (0, (i : Int)), (0, (j : Int)), (9, 0), (9, 0)] [] zN σ (zQz T) := by
        intro d
        induction d with
        | zero =>
          intro j hj
          have : j = i := by omega
          subst this
          exact bk_X11_band_37 ⟨by constructor <;> omega, by constructor <;> omega, fun _ => ih (j + 1) (by omega), fun q => absurd (Int.le_refl _) q⟩
        | succ d ih2 =>
          intro j hj
          have wr := wy_r ok (i := i) (j := j) (by omega) (by omega) (by omega) (by omega)
          have ri := (ok.g i (by omega) (by omega)).2.2.1
          have rj := (ok.g j (by omega) (by omega)).2.2.1
          refine bk_X11_band_37 ⟨by constructor <;> omega, by constructor <;> omega, fun q => absurd q (by omega), fun _ => ⟨pl.1, hf, c_way pl.2 hf (by omega) (by omega) (by omega) (by omega) ?_⟩⟩
          have nx := ih2 (j + 1) (by omega)
          have ec : sqI α f t i (j + 1) = sqI α f t i j + (if f ≤ wy α i j ∧ wy α i j ≤ t then (α 3 i - α 3 j) * (α 3 i - α 3 j) else 0) := rfl
          refine c_isWithin (x := wy α i j) (by constructor <;> omega) rf rt (fun w1 w2 => ⟨fun q => (by cases q), fun _ => ?_⟩) (fun q => ⟨fun _ => ?_, fun q => (by cases q)⟩)
          · rw [(gr i (by omega) (by omega)).2.2.1, (gr j (by omega) (by omega)).2.2.1]
            rw [ec, if_pos ⟨w1, w2⟩, ← Int.add_assoc] at nx
            exact ⟨pl.1, hf, by omega, by omega, by omega, by omega, by constructor <;> omega, nx⟩
          · rw [ec, if_neg q, Int.add_zero] at nx; exact nx
      have := inner i 0 (by omega)
      rw [show sqA α f t i + sqI α f t i 0 = sqA α f t i from Int.add_zero _] at this
      exact bk_X11_band_19 ⟨pl.1, hf, by constructor <;> omega, by rw [gz]; constructor <;> omega, fun q => absurd q (by omega), fun _ => this⟩
  exact outer (α 0 0).toNat 0 (by omega)
theorem MS.f29 {σ σ' α : ZM} (h : MS σ α) (f : Fix σ') (o : ∀ c : Int, c ≠ 211 → σ' c = σ c) (o1 : ∀ i : Int, i ≠ 29 → σ' 211 i = σ 211 i) : MS σ' α := by
  obtain ⟨⟨v, n, mv⟩, l, g, w, m⟩ := h
  exact ⟨⟨v, n.row f (o 212 (by decide)), mv⟩, l.fr (o 213 (by decide)) (o 214 (by decide)) (o 215 (by decide)) rfl rfl rfl, g.fr (o1 4 (by decide)) (fun c _ _ => o c (by omega)) rfl rfl rfl rfl rfl, w.fr (o1 9 (by decide)) (o 220 (by decide)) rfl rfl, m.fr (o1 11 (by decide)) (o1 12 (by decide)) (o1 13 (by decide)) rfl rfl rfl⟩
theorem m_band0 {X : ZS} {σ α : ZM} {T : Int → ZM → Prop} {f t : Int} (rf : r32 f) (rt : r32 t) (ms : MS σ α) (ok : Ok α) (h : ∀ σ', Ou 211 229 σ σ' → MS σ' α → σ' 211 29 = sqA α f t (α 0 0).toNat → T (cnA α f t (α 0 0).toNat) σ') : ZC X (rX12_band0 zN) mX12_band0 [(2, 211), (0, f), (0, t)] zN σ (zQi T) := by
  have hf := ms.fix
  have s8 := ok.s
  have g := ms.2.2.1
  have outer : ∀ (l i : Nat) (τ : ZM), (i : Int) + l = α 0 0 → Fix τ → (∀ c : Int, c ≠ 211 → τ c = σ c) → (∀ k : Int, k ≠ 29 → τ 211 k = σ 211 k) → τ 211 29 = sqA α f t i → Z X (rX12_band0 zN) mX12_band0 10 [(2, 211), (0, f), (0, t), (0, cnA α f t i), (0, (i : Int)), (9, 0), (9, 0)] [] zN τ (zQi T) := by
    intro l
    induction l with
    | zero =>
      intro i τ hi ft o o1 e29
      have e : (α 0 0).toNat = i := by omega
      rw [e] at h
      have t4 : τ 211 4 = α 0 0 := by rw [o1 4 (by decide)]; exact g.1
      exact bk_X12_band0_10 ⟨by constructor <;> omega, by rw [t4]; constructor <;> omega, fun _ => h τ (fun c hc => o c (by omega)) (ms.f29 ft o o1) e29, fun q => absurd (by omega) q⟩
    | succ l ih =>
      intro i τ hi ft o o1 e29
      have t4 : τ 211 4 = α 0 0 := by rw [o1 4 (by decide)]; exact g.1
      have inner : ∀ (d j : Nat) (τ : ZM), j + d = i → Fix τ → (∀ c : Int, c ≠ 211 → τ c = σ c) → (∀ k : Int, k ≠ 29 → τ 211 k = σ 211 k) → τ 211 29 = sqA α f t i + sqI α f t i j → Z X (rX12_band0 zN) mX12_band0 22 [(2, 211), (0, f), (0, t), (0, cnA α f t i + cnI α f t i j), (0, (i : Int)), (0, (j : Int)), (9, 0)] [] zN τ (zQi T) := by
        intro d
        induction d with
        | zero =>
          intro j τ hj ft o o1 e29
          have : j = i := by omega
          subst this
          exact bk_X12_band0_22 ⟨by constructor <;> omega, by constructor <;> omega, fun _ => ih (j + 1) τ (by omega) ft o o1 e29, fun q => absurd (Int.le_refl _) q⟩
        | succ d ih2 =>
          intro j τ hj ft o o1 e29
          have wr := wy_r ok (i := i) (j := j) (by omega) (by omega) (by omega) (by omega)
          have gi := g.2 i (by omega) (by omega)
          have gj := g.2 j (by omega) (by omega)
          have ri := ok.g i (by omega) (by omega)
          have rj := ok.g j (by omega) (by omega)
          refine bk_X12_band0_22 ⟨by constructor <;> omega, by constructor <;> omega, fun q => absurd q (by omega), fun _ => ⟨ft, by omega, by omega, by omega, by omega, ?_⟩⟩
          rw [o 216 (by decide), o 217 (by decide), gi.1, gi.2.1, gj.1, gj.2.1]
          refine m_way ri.1 ri.2.1 rj.1 rj.2.1 ?_
          have ec : cnI α f t i (j + 1) = cnI α f t i j + (if f ≤ wy α i j ∧ wy α i j ≤ t then 1 else 0) := rfl
          have es : sqI α f t i (j + 1) = sqI α f t i j + (if f ≤ wy α i j ∧ wy α i j ≤ t then (α 3 i - α 3 j) * (α 3 i - α 3 j) else 0) := rfl
          have skip : ¬ (f ≤ wy α i j ∧ wy α i j ≤ t) → Z X (rX12_band0 zN) mX12_band0 22 [(2, 211), (0, f), (0, t), (0, cnA α f t i + cnI α f t i j), (0, (i : Int)), (0, ((j : Int) + 1)), (9, 0)] [] zN τ (zQi T) := fun q => by
            rw [if_neg q, Int.add_zero] at ec es
            have nx := ih2 (j + 1) τ (by omega) ft o o1 (by rw [es]; exact e29)
            rw [ec] at nx; exact nx
          refine ⟨by show r32 (wy α i j); constructor <;> omega, rf, fun q => skip (fun w => by have : wyp (α 1 i) (α 2 i) (α 1 j) (α 2 j) = wy α i j := rfl; omega), fun q => ⟨rt, fun q2 => ?_, fun q2 => skip (fun w => q2 w.2)⟩⟩
          have wq : f ≤ wy α i j ∧ wy α i j ≤ t := ⟨by have : wyp (α 1 i) (α 2 i) (α 1 j) (α 2 j) = wy α i j := rfl; omega, q2⟩
          rw [if_pos wq] at ec es
          rw [o 218 (by decide), gi.2.2.1, gj.2.2.1, e29]
          refine ⟨ft, by constructor <;> omega, ?_⟩
          have nx := ih2 (j + 1) (z_up τ 211 29 (sqA α f t i + sqI α f t i j + (α 3 i - α 3 j) * (α 3 i - α 3 j))) (by omega) (ft.upF la_211 29 (by decide +kernel)) (fun c hc => by rw [z_up_far _ _ _ hc]; exact o c hc) (fun k hk => by rw [z_up_ne _ (Or.inr hk)]; exact o1 k hk) (by rw [z_up_same, es, Int.add_assoc])
          rw [ec, ← Int.add_assoc] at nx; exact nx
      have := inner i 0 τ (by omega) ft o o1 (by rw [e29]; exact (Int.add_zero _).symm)
      rw [show cnA α f t i + cnI α f t i 0 = cnA α f t i from Int.add_zero _] at this
      exact bk_X12_band0_10 ⟨by constructor <;> omega, by rw [t4]; constructor <;> omega, fun q => absurd q (by omega), fun _ => this⟩
  exact bk_X12_band0 (outer (α 0 0).toNat 0 _ (by omega) (hf.upF la_211 29 (by decide +kernel)) (fun c hc => z_up_far _ _ _ hc) (fun k hk => z_up_ne _ (Or.inr hk)) (z_up_same _ _ _ _))
theorem m_pairs {X : ZS} {σ α : ZM} {T : Int → ZM → Prop} {f t : Int} (rf : r32 f) (rt : r32 t) (ms : MS σ α) (ok : Ok α) (h : ∀ σ', Ou 211 229 σ σ' → MS σ' α → T (cnA α f t (α 0 0).toNat) σ') : ZC X (rX12_pairs zN) mX12_pairs [(2, 211), (0, f), (0, t)] zN σ (zQi T) :=
  bk_X12_pairs (m_band0 rf rt ms ok (fun σ' o m _ => h σ' o m))
theorem pw_big : (4000000000000000000 : Int) < pw 15 := by unfold pw; decide +kernel
theorem MV.upd {α : ZM} {v w : Int → Int} {u x : Int} (h : MV α v) (he : ∀ k : Int, 110 ≤ k → k < 132 → w k = v k) (h0 : w 0 = u) (h1 : w 1 = x) : MV (s_res α u x) w := by
  refine ⟨fun q k k0 k1 => ?_, h0, h1⟩
  rw [he (110 + k) (by omega) (by omega), he (121 + k) (by omega) (by omega)]
  exact h.1 q k k0 k1
theorem m_band {X : ZS} {σ α : ZM} {T : Bool → ZM → Prop} {f t : Int} (rf : r32 f) (rt : r32 t) (ms : MS σ α) (ok : Ok α) (h0 : cnA α f t (α 0 0).toNat = 0 → ∀ σ', Ou 211 229 σ σ' → MS σ' α → T false σ') (h1 : cnA α f t (α 0 0).toNat ≠ 0 → ∀ σ' u v, Ou 211 229 σ σ' → MS σ' (s_res α u v) → lowt (sqA α f t (α 0 0).toNat) (2 * cnA α f t (α 0 0).toNat) u v → T true σ') : ZC X (rX12_band zN) mX12_band [(2, 211), (0, f), (0, t)] zN σ (zQz T) := by
  have s8 := ok.s
  have cr := cnA_r (α := α) (f := f) (t := t) (α 0 0).toNat (by omega)
  have sr := sqA_r (f := f) (t := t) ok (α 0 0).toNat (by omega)
  refine bk_X12_band (m_band0 rf rt ms ok (fun σ2 o2 m2 e29 => ⟨by constructor <;> omega, fun nz => ?_, fun q => h0 q σ2 o2 m2⟩))
  rw [e29]
  have m2' := m2
  obtain ⟨⟨v, n, mv⟩, _⟩ := m2'
  have pb := pw_big
  refine c_set (by decide) (by decide) n (by omega) (by omega) (fun σ5 o5 n5 => c_set (by decide) (by decide) n5 (by omega) (by omega) (fun σ7 o7 n7 => ?_))
  obtain ⟨v7, hv7⟩ : ∃ v7 : Int → Int, v7 = fu (fu v 5 (sqA α f t (α 0 0).toNat)) 6 (2 * cnA α f t (α 0 0).toNat) := ⟨_, rfl⟩
  rw [← hv7] at n7
  have a5 : v7 5 = sqA α f t (α 0 0).toNat := by rw [hv7, fu_n _ _ (by decide), fu_s]
  have a6 : v7 6 = 2 * cnA α f t (α 0 0).toNat := by rw [hv7, fu_s]
  have ak : ∀ k : Int, 110 ≤ k → v7 k = v k := fun k hk => by rw [hv7, fu_n _ _ (by omega), fu_n _ _ (by omega)]
  refine c_result (by decide) (by decide) (by decide) (by decide) n7 (by rw [a5]; omega) (by rw [a6]; omega) (by rw [a6]; omega) (fun σ9 w o9 n9 e9 lt => ?_)
  rw [a5, a6] at lt
  have oo := (o5.trans o7).trans o9
  refine h1 nz σ9 (w 0) (w 1) (o2.trans oo.ou) (m2.num oo n9 (mv.upd (fun k k0 k1 => ?_) rfl rfl)) lt
  rw [e9 k (by omega) k1, ak k k0]
