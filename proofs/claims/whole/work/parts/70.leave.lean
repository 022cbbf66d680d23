/-- the weights of the class: the first is what the others leave -/
def wts (D P : Int) (u : Nat) (y : Nat → Int) : Nat → Int := fun j => match j with | 0 => D * P - sm y u | j + 1 => y j
theorem class_sol {C : Nat → Bool} {u : Nat} {d : Nat → Nat} {G : Nat → Nat → Int} {ρ : Nat → Int} {P D : Int} {y : Nat → Int} (o : Ord C (u + 1) d) (hD : D ≠ 0) (h : ∀ r, r < u → D * sqr u (fun i j => G (d i) (d j)) (fun i => ρ (d i)) P u r = sm (fun l => y l * sqr u (fun i j => G (d i) (d j)) (fun i => ρ (d i)) P l r) u) :
    SolI C G ρ P (sprd (u + 1) d (wts D P u y)) (D * ρ (d 0) - sm (fun j => wts D P u y j * G (d 0) (d j)) (u + 1)) D :=
  o.sol (y := wts D P u y) (fun i hi => o.spr _ hi) (sol_class (x := wts D P u y) hD h rfl (fun _ _ => rfl))
theorem Ord.wsum {C : Nat → Bool} {k : Nat} {d : Nat → Nat} (h : Ord C k d) (x : Nat → Int) (f : Nat → Int) : sm (fun t => if C t then sprd k d x t * f t else 0) 8 = sm (fun j => x j * f (d j)) k := by
  rw [← h.sum (fun t => sprd k d x t * f t)]
  exact sm_congr (fun j hj => by rw [h.spr x hj])
theorem Ord.cd {σ α : ZM} {C : Nat → Bool} {k : Nat} {d : Nat → Nat} (o : Ord C k d) (h4 : σ 11 4 = k) (k8 : k ≤ 8) (h12 : ∀ a, a < k → σ 12 (a : Int) = (d a : Nat)) (hC : ∀ s, C s = true → (s : Int) < α 0 0) : CD σ α k d :=
  ⟨h4, k8, fun a ha => ⟨h12 a ha, hC _ (o.1 a ha).2⟩, fun a b ha hb e => o.2.1 a b ha hb e⟩
theorem b_leaveOut {X : ZS} {σ α : ZM} {T : Bool → ZM → Prop} {l i : Int} (hl : -1 ≤ l) (hl1 : l < α 0 1) (hi : r32 i) (cs : CS σ α) (ok : Ok α)
    (h0 : ∀ σ', CS σ' α → Fl σ σ' → ¬ (l ≠ -1 ∧ 0 ≤ i ∧ i < α 0 0 ∧ gd α l i) → T false σ')
    (h1 : ∀ σ', CS σ' α → Fl σ σ' → l ≠ -1 → 0 ≤ i → i < α 0 0 → gd α l i → eqf (wv σ' 185) (wv σ' 187) (ofT α l i) (ofB α l i) → (-pw 6 < wv σ' 185 ∧ wv σ' 185 < pw 6) → (-pw 5 < wv σ' 187 ∧ wv σ' 187 < pw 5) → T true σ') :
    ZC X (rX11_leaveOut zN) mX11_leaveOut [(2, 1), (0, l), (0, i)] zN σ (zQz T) := by
  have hf := cs.fix
  have s8 := ok.s
  have L6 := ok.l
  have g := cs.2.2.1
  have pl := g.pl ok
  have zz := sl (s := σ 1 11) (by have := g.1; omega)
  have hsv : σ 1 11 = 199 ∨ σ 1 11 = 205 := by have := g.1; omega
  have gz := g.2.1
  have gr := g.2.2
  have no : ∀ σ', CS σ' α → Fl σ σ' → ¬ (l ≠ -1 ∧ 0 ≤ i ∧ i < α 0 0 ∧ gd α l i) → T false σ' := h0
  refine bk_X11_leaveOut ⟨pl.1, hf, by constructor <;> omega, fun q => no σ cs (fun _ _ => rfl) (fun w => w.1 q), fun ql => ?_⟩
  refine c_phas pl.2.1 hi gz (by constructor <;> omega) (fun i0 i1 => ⟨fun q => (by cases q), fun _ => ⟨by rw [gz]; constructor <;> omega, fun q2 => ⟨hf, ?_⟩, fun q2 => no σ cs (fun _ _ => rfl) (fun w => by have := w.2.2.2.1; omega)⟩⟩) (fun q => ⟨fun _ => no σ cs (fun _ _ => rfl) (fun w => q ⟨w.2.1, w.2.2.1⟩), fun q => (by cases q)⟩)
  have S2 : 2 ≤ α 0 0 := by omega
  have gi := ok.g i i0 i1
  obtain ⟨s, hs⟩ : ∃ s, s = σ 1 11 := ⟨_, rfl⟩
  rw [← hs] at zz hsv gz gr ⊢
  have e1 : s + 1 + 1 = s + 2 := by omega
  have e2 : s + 1 + 2 = s + 3 := by omega
  refine bk_X6_clear la_8 ?_
  have f9 : Fix (z_up σ 8 2 0) := hf.upF la_8 2 (by decide +kernel)
  rw [e1, e2, z_up_far _ _ _ (by omega), z_up_far _ _ _ (by omega), (gr i i0 i1).1, (gr i i0 i1).2.1]
  refine ⟨f9, i0, by rw [zz.2.2.1]; show i < 8; omega, by rw [zz.2.2.2.1]; show i < 8; omega, ?_⟩
  refine bk_X6_add la_8 ?_
  rw [z_up_same, show z_l (8 + 1) = (20, 6) from la_9, show z_l (8 + 2) = (20, 6) from la_10]
  refine ⟨f9, by decide, by decide, fun q => absurd q (by decide), fun _ => ⟨by decide, by decide, by decide, ?_⟩⟩
  obtain ⟨τ, hτ⟩ : ∃ τ : ZM, τ = z_up (z_up (z_up (z_up σ 8 2 0) (8 + 1) 0 (α 1 i)) (8 + 2) 0 (α 2 i)) 8 2 (0 + 1) := ⟨_, rfl⟩
  rw [← hτ]
  have fτ : Fix τ := by rw [hτ]; exact ((f9.upA (a := 9) la_9 (by decide)).upA (a := 10) la_10 (by decide)).upF la_8 2 (by decide +kernel)
  have oτ : ∀ c : Int, c < 8 ∨ 10 < c → τ c = σ c := fun c hc => by
    rw [hτ, z_up_far _ _ _ (by omega), z_up_far _ _ _ (by omega), z_up_far _ _ _ (by omega), z_up_far _ _ _ (by omega)]
  have csτ : CS τ α := cs.fl (cs.1.fr fτ (fun c _ _ _ => oτ c (by omega))) (fun c hc => oτ c (by omega))
  have Qτ : PL τ 8 6 1 (fun _ => α 1 i) (fun _ => α 2 i) := by
    refine ⟨la_8, la_9, la_10, ?_, by decide, by decide, fun j j0 j1 => ?_⟩
    · rw [hτ, z_up_same]; rfl
    · have : j = 0 := by omega
      subst this
      refine ⟨?_, ?_, gi.1, gi.2.1⟩
      · rw [hτ, z_up_far _ _ _ (by decide), z_up_far _ _ _ (by decide), z_up_same]
      · rw [hτ, z_up_far _ _ _ (by decide), z_up_same]
  have tz : τ (s + 1) 2 = (((α 0 0).toNat : Nat) : Int) := by rw [oτ _ (by omega), gz]; omega
  rw [tz]
  refine ⟨fτ, c_chooseAllBut (by omega) hi fτ (fun σ18 f18 o18 p18 ch => ⟨f18, ?_⟩)⟩
  obtain ⟨d, od, hd⟩ := ch.ord (by omega) (fun s hs => (of_decide_eq_true hs).1)
  have cs18 : CS σ18 α := csτ.fl (csτ.1.fr f18 (fun c _ _ _ => o18 c (by omega))) (fun c hc => o18 c (by omega))
  obtain ⟨sx, sx1, sx2⟩ := allBut_two (n := (α 0 0).toNat) (x := i) (by omega)
  have kpos := cn_pos sx1 sx2
  have k8 : cn (allBut (α 0 0).toNat i) (α 0 0).toNat ≤ 8 := Nat.le_trans (cn_le _ _) (by omega)
  obtain ⟨u, hu⟩ : ∃ u, cn (allBut (α 0 0).toNat i) (α 0 0).toNat = u + 1 := ⟨_, (Nat.sub_add_cancel kpos).symm⟩
  have c4 := ch.1
  rw [hu] at od hd c4 k8
  have hC : ∀ s, allBut (α 0 0).toNat i s = true → (s : Int) < α 0 0 := fun s hs => by have := (of_decide_eq_true hs).1; omega
  have cd : CD σ18 α (u + 1) d := od.cd c4 k8 hd hC
  have Q18 : PL σ18 8 6 1 (fun _ => α 1 i) (fun _ => α 2 i) := Qτ.fr (o18 8 (by decide)) (o18 9 (by decide)) (o18 10 (by decide))
  have flτ : Fl σ σ18 := fun c hc => by rw [o18 c (by omega), oτ c (by omega)]
  have kfi : KFB (u + 1) (fun i j => Gx α l 1 (d i) (d j)) ↔ KFI (allBut (α 0 0).toNat i) (Gx α l 1) := od.kf (Gx α l 1)
  refine c_psolve cs18 ok (by omega) hl1 cd (by omega) Q18 (fun σ' c' o' nk => ⟨fun q => (by cases q), fun _ => no σ' c' (flτ.trans (fun c hc => o' c (by omega))) (fun w => nk (kfi.mpr w.2.2.2.2))⟩) (fun σ' w' c' o' n' cd' _ _ _ kb dn db yb sol => ⟨fun _ => ⟨n'.1, ?_⟩, fun q => (by cases q)⟩)
  rw [show u + 1 - 1 = u by omega] at db yb sol
  obtain ⟨y, hy⟩ : ∃ y : Nat → Int, y = fun l : Nat => w' (σ' 17 ((l : Int) * 8 + (u : Int))) := ⟨_, rfl⟩
  refine c_tellOff (y := y) c' ok n' cd' (by omega) i0 i1 (fun l hl => by rw [hy]; rfl) (by rw [show u + 1 - 1 = u by omega]; exact db) (fun l hl => by rw [hy]; rw [show u + 1 - 1 = u by omega] at hl ⊢; exact yb l hl) (fun σ29 b29 o29 v7 v5 => ?_)
  rw [show u + 1 - 1 = u by omega] at v5
  have fl29 : Fl σ σ29 := (flτ.trans (fun c hc => o' c (by omega))).trans (fun c hc => o29 c (by omega))
  have cs29 := cs.fl b29 fl29
  have sol' : ∀ r, r < u → w' 20 * sqr u (fun i j => Gx α l 1 (d i) (d j)) (fun j => rho α l (fun _ => α 1 i) (fun _ => α 2 i) 1 (d j)) ((1 : Nat) : Int) u r = sm (fun l' => y l' * sqr u (fun i j => Gx α l 1 (d i) (d j)) (fun j => rho α l (fun _ => α 1 i) (fun _ => α 2 i) 1 (d j)) ((1 : Nat) : Int) l' r) u := by rw [hy]; exact sol
  have SI := class_sol (C := allBut (α 0 0).toNat i) (G := Gx α l 1) (ρ := rho α l (fun _ => α 1 i) (fun _ => α 2 i) 1) (P := ((1 : Nat) : Int)) od dn sol'
  have kf := kfi.mp kb
  have E := of_eqf (by omega) kf SI ⟨sx, by omega, sx2⟩
  have top : w' 20 * α 3 i - sm (fun t => if allBut (α 0 0).toNat i t then sprd (u + 1) d (wts (w' 20) ((1 : Nat) : Int) u y) t * α 3 t else 0) 8 = wv σ29 185 := by
    rw [od.wsum _ (fun t => α 3 t), v5, sm_first]
    show w' 20 * α 3 i - ((w' 20 * ((1 : Nat) : Int) - sm y u) * α 3 (d 0) + sm (fun l => y l * α 3 (d (l + 1))) u) = _
    have e3 : sm (fun l => y l * (α 3 (d 0) - α 3 (d (l + 1)))) u = sm y u * α 3 (d 0) - sm (fun l => y l * α 3 (d (l + 1))) u := by
      rw [← sm_mulr, ← sm_sub]
      exact sm_congr (fun l _ => Int.mul_sub _ _ _)
    rw [e3, Int.sub_mul, Int.mul_sub, show ((1 : Nat) : Int) = 1 from rfl, Int.mul_one]
    omega
  rw [top, ← v7] at E
  have f6 := fa7b (n := u) (by omega)
  have f5 := fa7n (n := u) (by omega)
  refine h1 σ29 cs29 fl29 ql i0 i1 ⟨S2, kf⟩ E ?_ (by rw [v7]; omega)
  -- bounds of the top
  have Fp := fa_pos (A := 300000) (by decide) u
  have d0 := cd.2.2.1 0 (by omega)
  have n0 := (ok.g (d 0 : Nat) (by omega) d0.2).2.2.1
  have sa := sm_abs (f := fun l => y l * (α 3 (d 0) - α 3 (d (l + 1)))) (B := 2000 * fa 300000 u) (n := u) (fun l hl => by
    have nl := (ok.g (d (l + 1) : Nat) (by omega) (cd.2.2.1 (l + 1) (by omega)).2).2.2.1
    have yl : -fa 300000 u ≤ y l ∧ y l ≤ fa 300000 u := by rw [hy]; exact yb l hl
    have p := z_pb (x := α 3 (d 0) - α 3 (d (l + 1))) (y := y l) (A := 2000) (F := fa 300000 u) (by omega) (by omega) (by omega) (by omega) (by omega)
    rw [Int.mul_comm (y l)]; exact p)
  have p0 := z_pb (x := α 3 i - α 3 (d 0)) (y := w' 20) (A := 2000) (F := fa 300000 u) (by omega) (by omega) (by omega) (by omega) (by omega)
  have jj : (u : Int) * (2000 * fa 300000 u) ≤ 7 * (2000 * fa 300000 u) := Int.mul_le_mul_of_nonneg_right (by omega) (by omega)
  rw [v5, Int.mul_comm (w' 20)]
  omega
/-! comparing -/
theorem natAbs_cross {t b T B : Int} (h : eqf t b T B) : t.natAbs * B.natAbs = T.natAbs * b.natAbs := by rw [← Int.natAbs_mul, ← Int.natAbs_mul, h.2.2]
theorem cmp_eq {t b T B u c U C : Int} (h1 : eqf t b T B) (h2 : eqf u c U C) : (u * b).natAbs < (t * c).natAbs ↔ (U * B).natAbs < (T * C).natAbs := by
  have e1 := natAbs_cross h1
  have e2 := natAbs_cross h2
  have b0 : 0 < b.natAbs := Int.natAbs_pos.mpr h1.1
  have B0 : 0 < B.natAbs := Int.natAbs_pos.mpr h1.2.1
  have c0 : 0 < c.natAbs := Int.natAbs_pos.mpr h2.1
  have C0 : 0 < C.natAbs := Int.natAbs_pos.mpr h2.2.1
  rw [Int.natAbs_mul, Int.natAbs_mul, Int.natAbs_mul, Int.natAbs_mul]
  have x1 : u.natAbs * b.natAbs * (B.natAbs * C.natAbs) = U.natAbs * B.natAbs * (b.natAbs * c.natAbs) := by
    have : u.natAbs * b.natAbs * (B.natAbs * C.natAbs) = u.natAbs * C.natAbs * (b.natAbs * B.natAbs) := by grind
    rw [this, e2]; grind
  have x2 : t.natAbs * c.natAbs * (B.natAbs * C.natAbs) = T.natAbs * C.natAbs * (b.natAbs * c.natAbs) := by
    have : t.natAbs * c.natAbs * (B.natAbs * C.natAbs) = t.natAbs * B.natAbs * (c.natAbs * C.natAbs) := by grind
    rw [this, e1]; grind
  constructor
  · intro h
    have := Nat.mul_lt_mul_of_pos_right h (Nat.mul_pos B0 C0)
    rw [x1, x2] at this
    exact Nat.lt_of_mul_lt_mul_right this
  · intro h
    have := Nat.mul_lt_mul_of_pos_right h (Nat.mul_pos b0 c0)
    rw [← x1, ← x2] at this
    exact Nat.lt_of_mul_lt_mul_right this
