/-- the members of C below n, one behind the other, in row 12 -/
def CH (σ : ZM) (C : Nat → Bool) (n : Nat) : Prop := σ 11 4 = (cn C n : Int) ∧ ∀ s : Nat, s < n → C s = true → σ 12 (cn C s : Int) = s
theorem cn_mono (C : Nat → Bool) : ∀ {m n : Nat}, m ≤ n → cn C m ≤ cn C n := by
  intro m n h
  induction n with
  | zero => have : m = 0 := by omega
            subst this; exact Nat.le_refl _
  | succ n ih =>
    by_cases q : m = n + 1
    · subst q; exact Nat.le_refl _
    · have := ih (by omega)
      show cn C m ≤ cn C n + _
      omega
theorem cn_lt {C : Nat → Bool} {m n : Nat} (h : m < n) (hc : C m = true) : cn C m < cn C n := by
  have := cn_mono C (show m + 1 ≤ n by omega)
  have e : cn C (m + 1) = cn C m + 1 := by show cn C m + _ = _; rw [if_pos hc]
  omega
theorem CH.ord {σ : ZM} {C : Nat → Bool} {n : Nat} (h : CH σ C n) (hn : n ≤ 8) (hC : ∀ s, C s = true → s < n) : ∃ d, Ord C (cn C n) d ∧ ∀ a, a < cn C n → σ 12 (a : Int) = (d a : Nat) := by
  obtain ⟨d, e⟩ := en_of C n
  refine ⟨d, ⟨fun i hi => ?_, fun i j hi hj hij => ?_, fun s _ cs => ?_⟩, fun a ha => ?_⟩
  · have := e.1.1 i hi
    exact ⟨by omega, (e.2 (d i) this).mpr ⟨i, hi, rfl⟩⟩
  · have a := e.at hi
    have b := e.at hj
    rw [hij] at a
    omega
  · exact (e.2 s (hC s cs)).mp cs
  · have l := e.1.1 a ha
    have := h.2 (d a) l ((e.2 (d a) l).mpr ⟨a, ha, rfl⟩)
    rw [e.at ha] at this
    exact this
theorem CH.step {σ : ZM} {C : Nat → Bool} {n : Nat} (h : CH σ C n) (hc : C n = true) : CH (z_up (z_up σ 12 (cn C n : Int) (n : Int)) 11 4 ((cn C n : Int) + 1)) C (n + 1) := by
  have e : cn C (n + 1) = cn C n + 1 := by show cn C n + _ = _; rw [if_pos hc]
  refine ⟨by rw [z_up_same, e]; rfl, fun s hs cs => ?_⟩
  rw [z_up_far _ _ _ (by decide), z_up_row]
  by_cases q : s = n
  · subst q; rw [fu_s]
  · have := cn_lt (show s < n by omega) cs
    rw [fu_n _ _ (by omega)]; exact h.2 s (by omega) cs
theorem CH.skip {σ : ZM} {C : Nat → Bool} {n : Nat} (h : CH σ C n) (hc : C n = false) : CH σ C (n + 1) := by
  have e : cn C (n + 1) = cn C n := by show cn C n + _ = _; rw [hc]; rfl
  refine ⟨by rw [e]; exact h.1, fun s hs cs => ?_⟩
  by_cases q : s = n
  · subst q; rw [hc] at cs; cases cs
  · exact h.2 s (by omega) cs
def allBut (n : Nat) (x : Int) : Nat → Bool := fun s => decide (s < n ∧ (s : Int) ≠ x)
theorem c_chooseAllBut {X : ZS} {σ : ZM} {T : ZM → Prop} {x : Int} {n : Nat} (n8 : n ≤ 8) (hx : r32 x) (hf : Fix σ) (h : ∀ σ', Fix σ' → Ou 11 12 σ σ' → (∀ i : Int, i ≠ 4 → σ' 11 i = σ 11 i) → CH σ' (allBut n x) n → T σ') : ZC X (rX2_chooseAllBut zN) mX2_chooseAllBut [(2, 11), (0, x), (0, (n : Int))] zN σ (zQv T) := by
  have loop : ∀ (l i : Nat) (τ : ZM), i + l = n → Fix τ → Ou 11 12 σ τ → (∀ j : Int, j ≠ 4 → τ 11 j = σ 11 j) → CH τ (allBut n x) i → Z X (rX2_chooseAllBut zN) mX2_chooseAllBut 7 [(2, 11), (0, x), (0, (n : Int)), (0, (i : Int))] [] zN τ (zQv T) := by
    intro l
    induction l with
    | zero =>
      intro i τ hi f o o1 c
      have : i = n := by omega
      subst this
      exact bk_X2_chooseAllBut_7 ⟨by constructor <;> omega, by constructor <;> omega, fun _ => h τ f o o1 c, fun q => absurd (Int.le_refl _) q⟩
    | succ l ih =>
      intro i τ hi f o o1 c
      have k7 := cn_le (allBut n x) i
      refine bk_X2_chooseAllBut_7 ⟨by constructor <;> omega, by constructor <;> omega, fun q => absurd q (by omega), fun _ => ⟨fun q => absurd q (by omega), fun _ => ⟨hx, fun q => ih (i + 1) τ (by omega) f o o1 (c.skip (decide_eq_false (fun w => w.2 q))), fun q => ⟨f, by rw [c.1]; omega, by rw [c.1]; omega, ?_⟩⟩⟩⟩
      rw [c.1]
      refine ih (i + 1) _ (by omega) ((f.upA la_12 (by decide)).upF la_11 4 (by decide +kernel)) ((o.up (by decide) (by decide)).up (by decide) (by decide)) (fun j hj => by rw [z_up_ne _ (Or.inr hj), z_up_far _ _ _ (by decide)]; exact o1 j hj) (c.step (decide_eq_true ⟨by omega, q⟩))
  exact bk_X2_chooseAllBut (loop n 0 _ (by omega) (hf.upF la_11 4 (by decide +kernel)) (Ou.rfl'.up (by decide) (by decide)) (fun j hj => z_up_ne _ (Or.inr hj)) ⟨by rw [z_up_same]; rfl, fun s hs _ => by omega⟩)
/-- how many are nearer -/
def nrr (F : Int → Int) (i j : Int) : Prop := F j < F i ∨ F j = F i ∧ j < i
theorem nrr_dec (F : Int → Int) (i j : Int) : nrr F i j ∨ ¬ nrr F i j := Classical.em _
def rk (F : Int → Int) (i : Int) : Nat → Int
  | 0 => 0
  | j + 1 => rk F i j + (if F j < F i ∨ F j = F i ∧ (j : Int) < i then 1 else 0)
theorem rk_r {F : Int → Int} {i : Int} : ∀ n : Nat, 0 ≤ rk F i n ∧ rk F i n ≤ n
  | 0 => ⟨Int.le_refl _, Int.le_refl _⟩
  | j + 1 => by
    have := rk_r (F := F) (i := i) j
    show 0 ≤ rk F i j + _ ∧ rk F i j + _ ≤ _
    split <;> omega
def near (F : Int → Int) (n : Nat) (m : Int) : Nat → Bool := fun s => decide (s < n ∧ rk F s n < m)
/-- the way from a seen place to all that are asked for -/
def sw (a b : Int) (f g : Int → Int) (q : Nat) : Int := sm (fun j => wyp a b (f j) (g j)) q
theorem sm_rng {F : Nat → Int} {B : Int} (hB : 0 ≤ B) : ∀ {n : Nat}, (∀ i, i < n → 0 ≤ F i ∧ F i ≤ B) → 0 ≤ sm F n ∧ sm F n ≤ n * B
  | 0, _ => by show (0 : Int) ≤ 0 ∧ (0 : Int) ≤ (0 : Int) * B; omega
  | n + 1, h => by
    have ih := sm_rng hB (n := n) (fun i hi => h i (by omega))
    have hn := h n (by omega)
    show 0 ≤ sm F n + F n ∧ sm F n + F n ≤ ((n + 1 : Nat) : Int) * B
    have e : ((n + 1 : Nat) : Int) * B = n * B + B := by rw [Int.natCast_add, Int.add_mul]; omega
    omega
theorem c_countNearer {X : ZS} {σ : ZM} {T : Int → ZM → Prop} {F : Int → Int} {i n : Nat} (hf : Fix σ) (hi : i < n) (n8 : n ≤ 8) (hF : ∀ j : Int, 0 ≤ j → j < n → σ 15 j = F j ∧ r32 (F j)) (h : T (rk F i n) σ) : ZC X (rX2_countNearer zN) mX2_countNearer [(2, 11), (0, (i : Int)), (0, (n : Int))] zN σ (zQi T) := by
  have Fi := hF i (by omega) (by omega)
  have loop : ∀ (l j : Nat), j + l = n → Z X (rX2_countNearer zN) mX2_countNearer 5 [(2, 11), (0, (i : Int)), (0, (n : Int)), (0, rk F i j), (0, (j : Int))] [] zN σ (zQi T) := by
    intro l
    induction l with
    | zero =>
      intro j hj
      have : j = n := by omega
      subst this
      exact bk_X2_countNearer_5 ⟨by constructor <;> omega, by constructor <;> omega, fun _ => h, fun q => absurd (Int.le_refl _) q⟩
    | succ l ih =>
      intro j hj
      have Fj := hF j (by omega) (by omega)
      have nx := ih (j + 1) (by omega)
      have ec : rk F i (j + 1) = rk F i j + (if F j < F i ∨ F j = F i ∧ (j : Int) < i then 1 else 0) := rfl
      refine bk_X2_countNearer_5 ⟨by constructor <;> omega, by constructor <;> omega, fun q => absurd q (by omega), fun _ => ⟨fun q => absurd q (by omega), fun _ => ?_⟩⟩
      rw [Fj.1, Fi.1]
      refine ⟨hf, by omega, by omega, by omega, by omega, Fj.2, Fi.2, fun q => ?_, fun q => ⟨fun q2 => ?_, fun q2 => ⟨by constructor <;> omega, fun q3 => ?_, fun q3 => ?_⟩⟩⟩
      · rw [ec, if_pos (Or.inl q)] at nx; exact nx
      · rw [ec, if_neg (by omega), Int.add_zero] at nx; exact nx
      · rw [ec, if_neg (by omega), Int.add_zero] at nx; exact nx
      · rw [ec, if_pos (by omega)] at nx; exact nx
  exact bk_X2_countNearer (loop n 0 (by omega))
theorem c_chooseNearest {X : ZS} {σ : ZM} {T : ZM → Prop} {p1 p2 m : Int} {n q : Nat} {x y f g : Int → Int} (hf : Fix σ) (P : PL σ p1 8 n x y) (Q : PL σ p2 6 q f g) (m1 : 1 ≤ m) (m8 : m ≤ 8) (d1 : p1 < 11 ∨ 15 < p1) (d2 : p1 + 2 < 11 ∨ 15 < p1) (d3 : p2 < 11 ∨ 15 < p2) (d4 : p2 + 2 < 11 ∨ 15 < p2)
    (h : ∀ σ', Fix σ' → Ou 11 15 σ σ' → (∀ i : Int, i ≠ 4 → σ' 11 i = σ 11 i) → CH σ' (near (fun s => sw (x s) (y s) f g q) n m) n → T σ') : ZC X (rX2_chooseNearest zN) mX2_chooseNearest [(2, 11), (2, p1), (2, p2), (0, m)] zN σ (zQv T) := by
  obtain ⟨F, hF⟩ : ∃ F : Int → Int, F = fun s => sw (x s) (y s) f g q := ⟨_, rfl⟩
  rw [← hF] at h
  have tr : ∀ {τ : ZM}, Ou 11 15 σ τ → PL τ p1 8 n x y ∧ PL τ p2 6 q f g := fun {τ} o => by
    obtain ⟨a1, a2, a3, a4, a5, a6, a7⟩ := P
    obtain ⟨b1, b2, b3, b4, b5, b6, b7⟩ := Q
    exact ⟨⟨a1, a2, a3, by rw [o p1 (by omega)]; exact a4, a5, a6, fun i i0 i1 => by rw [o (p1 + 1) (by omega), o (p1 + 2) (by omega)]; exact a7 i i0 i1⟩, ⟨b1, b2, b3, by rw [o p2 (by omega)]; exact b4, b5, b6, fun i i0 i1 => by rw [o (p2 + 1) (by omega), o (p2 + 2) (by omega)]; exact b7 i i0 i1⟩⟩
  have n8 : n ≤ 8 := P.2.2.2.2.1
  have q6 : q ≤ 6 := Q.2.2.2.2.1
  have Fr : ∀ s : Int, 0 ≤ s → s < n → ∀ j : Nat, j ≤ q → 0 ≤ sm (fun j => wyp (x s) (y s) (f j) (g j)) j ∧ sm (fun j => wyp (x s) (y s) (f j) (g j)) j ≤ 480 := fun s s0 s1 j hj => by
    have ps := P.2.2.2.2.2.2 s s0 s1
    have := sm_rng (F := fun j : Nat => wyp (x s) (y s) (f j) (g j)) (B := 80) (by decide) (n := j) (fun i hi => by
      have qi := Q.2.2.2.2.2.2 i (by omega) (by omega)
      exact wyp_r ps.2.2.1 ps.2.2.2 qi.2.2.1 qi.2.2.2)
    omega
  have loop2 : ∀ (l i : Nat) (τ : ZM), i + l = n → Fix τ → Ou 11 15 σ τ → (∀ j : Int, j ≠ 4 → τ 11 j = σ 11 j) → (∀ j : Int, 0 ≤ j → j < n → τ 15 j = F j ∧ r32 (F j)) → CH τ (near F n m) i → Z X (rX2_chooseNearest zN) mX2_chooseNearest 89 [(2, 11), (2, p1), (9, 0), (0, m), (0, (i : Int)), (9, 0)] [] zN τ (zQv T) := by
    intro l
    induction l with
    | zero =>
      intro i τ hi ft o o1 v c
      have : i = n := by omega
      subst this
      have pz := (tr o).1.2.2.2.1
      exact bk_X2_chooseNearest_89 P.1 ⟨by constructor <;> omega, by rw [pz]; constructor <;> omega, fun _ => h τ ft o o1 c, fun q => absurd (by omega) q⟩
    | succ l ih =>
      intro i τ hi ft o o1 v c
      have pz := (tr o).1.2.2.2.1
      have k7 := cn_le (near F n m) i
      refine bk_X2_chooseNearest_89 P.1 ⟨by constructor <;> omega, by rw [pz]; constructor <;> omega, fun q => absurd q (by omega), fun _ => ⟨fun q => absurd q (by omega), fun _ => ?_⟩⟩
      rw [pz]
      have rr := rk_r (F := F) (i := i) n
      refine c_countNearer ft (by omega) n8 v ⟨by constructor <;> omega, by constructor <;> omega, fun q2 => ih (i + 1) τ (by omega) ft o o1 v (c.skip (decide_eq_false (by omega))), fun q2 => ⟨ft, by rw [c.1]; omega, by rw [c.1]; omega, ?_⟩⟩
      rw [c.1]
      exact ih (i + 1) _ (by omega) ((ft.upA la_12 (by decide)).upF la_11 4 (by decide +kernel)) ((o.up (by decide) (by decide)).up (by decide) (by decide)) (fun j hj => by rw [z_up_ne _ (Or.inr hj), z_up_far _ _ _ (by decide)]; exact o1 j hj) (fun j j0 j1 => by rw [z_up_far _ _ _ (by decide), z_up_far _ _ _ (by decide)]; exact v j j0 j1) (c.step (decide_eq_true ⟨by omega, by omega⟩))
  have loop : ∀ (l i : Nat) (τ : ZM), i + l = n → Fix τ → Ou 11 15 σ τ → τ 11 = σ 11 → (∀ j : Int, 0 ≤ j → j < i → τ 15 j = F j) → Z X (rX2_chooseNearest zN) mX2_chooseNearest 3 [(2, 11), (2, p1), (2, p2), (0, m), (0, (i : Int)), (9, 0)] [] zN τ (zQv T) := by
    intro l
    induction l with
    | zero =>
      intro i τ hi ft o o1 v
      have : i = n := by omega
      subst this
      have pz := (tr o).1.2.2.2.1
      refine bk_X2_chooseNearest_3 P.1 Q.1 ⟨by constructor <;> omega, by rw [pz]; constructor <;> omega, fun _ => ?_, fun q => absurd (by omega) q⟩
      refine loop2 i 0 _ (by omega) (ft.upF la_11 4 (by decide +kernel)) (o.up (by decide) (by decide)) (fun j hj => by rw [z_up_ne _ (Or.inr hj), o1]) (fun j j0 j1 => ?_) ⟨by rw [z_up_same]; rfl, fun s hs _ => by omega⟩
      rw [z_up_far _ _ _ (by decide)]
      have := Fr j j0 j1 q (Nat.le_refl _)
      refine ⟨v j j0 j1, ?_⟩
      rw [hF]
      show r32 (sm (fun k => wyp (x j) (y j) (f k) (g k)) q)
      constructor <;> omega
    | succ l ih =>
      intro i τ hi ft o o1 v
      have pz := (tr o).1.2.2.2.1
      have inner : ∀ (d j : Nat) (τ : ZM), j + d = q → Fix τ → Ou 11 15 σ τ → τ 11 = σ 11 → (∀ j : Int, 0 ≤ j → j < i → τ 15 j = F j) → τ 15 i = sm (fun j => wyp (x i) (y i) (f j) (g j)) j → Z X (rX2_chooseNearest zN) mX2_chooseNearest 30 [(2, 11), (2, p1), (2, p2), (0, m), (0, (i : Int)), (0, (j : Int))] [] zN τ (zQv T) := by
        intro d
        induction d with
        | zero =>
          intro j τ hj ft o o1 v vi
          have : j = q := by omega
          subst this
          have qz := (tr o).2.2.2.2.1
          refine bk_X2_chooseNearest_30 P.1 Q.1 ⟨by constructor <;> omega, by rw [qz]; constructor <;> omega, fun _ => ih (i + 1) τ (by omega) ft o o1 (fun k k0 k1 => ?_), fun q => absurd (by omega) q⟩
          by_cases w : k = i
          · subst w; rw [vi, hF]; rfl
          · exact v k k0 (by omega)
        | succ d ih2 =>
          intro j τ hj ft o o1 v vi
          have Pt := (tr o).1
          have Qt := (tr o).2
          have qz := Qt.2.2.2.1
          have qj := Qt.2.2.2.2.2.2 j (by omega) (by omega)
          refine bk_X2_chooseNearest_30 P.1 Q.1 ⟨by constructor <;> omega, by rw [qz]; constructor <;> omega, fun q => absurd q (by omega), fun _ => ⟨ft, by omega, by omega, by omega, by rw [Q.2.1]; show (j : Int) < (6 : Int); omega, by rw [Q.2.2.1]; show (j : Int) < (6 : Int); omega, ?_⟩⟩
          rw [qj.1, qj.2.1]
          refine c_wayTo Pt ft (by omega) (by omega) qj.2.2.1 qj.2.2.2 ?_
          refine ih2 (j + 1) _ (by omega) (ft.upA la_15 (by decide)) (o.up (by decide) (by decide)) (by rw [z_up_far _ _ _ (by decide), o1]) (fun k k0 k1 => ?_) ?_
          · rw [z_up_row, fu_n _ _ (by omega)]; exact v k k0 k1
          · rw [z_up_row, fu_s, vi]; rfl
      refine bk_X2_chooseNearest_3 P.1 Q.1 ⟨by constructor <;> omega, by rw [pz]; constructor <;> omega, fun q => absurd q (by omega), fun _ => ⟨fun q => absurd q (by omega), fun _ => ⟨ft, by omega, by omega, ?_⟩⟩⟩
      refine inner q 0 _ (by omega) (ft.upA la_15 (by decide)) (o.up (by decide) (by decide)) (by rw [z_up_far _ _ _ (by decide), o1]) (fun k k0 k1 => ?_) ?_
      · rw [z_up_row, fu_n _ _ (by omega)]; exact v k k0 k1
      · rw [z_up_row, fu_s]; rfl
  exact bk_X2_chooseNearest P.1 Q.1 (loop n 0 σ (by omega) hf Ou.rfl' rfl (fun j j0 j1 => by omega))
