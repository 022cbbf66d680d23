theorem CB.wn {σ : ZM} (b : CB σ) : WN σ (wv σ) := ⟨b.1, b.2.1, fun _ _ => rfl⟩
theorem CS.grid {σ σ' α : ZM} {w' : Int → Int} (cs : CS σ α) (n : WN σ' w') (hg : GP (σ' 17)) (o : Ou 11 140 σ σ') : CS σ' α := by
  have g1 := cs.2.2.1.1
  exact cs.tmp ⟨n.1, n.2.1, hg, fun i i0 i1 => by rw [o 142 (by decide)]; exact cs.1.2.2.2 i i0 i1⟩ (fun c hc => o c (by omega))
theorem c_psolve {X : ZS} {σ α : ZM} {T : Bool → ZM → Prop} {l : Int} {k q : Nat} {d : Nat → Nat} {f g : Int → Int} (cs : CS σ α) (ok : Ok α) (l0 : 0 ≤ l) (l1 : l < α 0 1) (cd : CD σ α k d) (k1 : 1 ≤ k) (Q : PL σ 8 6 q f g)
    (h0 : ∀ σ', CS σ' α → Ou 11 140 σ σ' → ¬ KFB k (fun i j => Gx α l 1 (d i) (d j)) → T false σ')
    (h1 : ∀ σ' w', CS σ' α → Ou 11 140 σ σ' → WN σ' w' → CD σ' α k d → σ' 11 5 = q → (∀ i j : Nat, i < k → j < k → σ' 13 ((i : Int) * 8 + j) = Gx α l 1 (d i) (d j)) → (∀ i : Nat, i < k → σ' 14 (i : Int) = rho α l f g q (d i)) → KFB k (fun i j => Gx α l 1 (d i) (d j)) → w' 20 ≠ 0 → (-fa 300000 (k - 1) ≤ w' 20 ∧ w' 20 ≤ fa 300000 (k - 1)) → (∀ l : Nat, l < k - 1 → -fa 300000 (k - 1) ≤ w' (σ' 17 ((l : Int) * 8 + ((k - 1 : Nat) : Int))) ∧ w' (σ' 17 ((l : Int) * 8 + ((k - 1 : Nat) : Int))) ≤ fa 300000 (k - 1)) → (∀ r : Nat, r < k - 1 → w' 20 * sqr (k - 1) (fun i j => Gx α l 1 (d i) (d j)) (fun i => rho α l f g q (d i)) q (k - 1) r = sm (fun j => w' (σ' 17 ((j : Int) * 8 + ((k - 1 : Nat) : Int))) * sqr (k - 1) (fun i j => Gx α l 1 (d i) (d j)) (fun i => rho α l f g q (d i)) q j r) (k - 1)) → T true σ') :
    ZC X (rX2_prepare zN) mX2_prepare [(2, 11), (2, σ 1 11), (2, 8), (2, 6), (0, l), (2, 16)] zN σ (zQv (fun σ7 => (Fix σ7) ∧ ZC X (rX2_unknowns zN) mX2_unknowns [(2, 11)] zN σ7 (zQi (fun r9 σ10 => ZC X (rX4_solve zN) mX4_solve [(2, 16), (0, r9)] zN σ10 (zQz T))))) := by
  have s8 := ok.s
  have k8 := cd.2.1
  have q6 : q ≤ 6 := Q.2.2.2.2.1
  have zz := (cs.2.2.1.pl ok).1
  have hq : ∀ i : Int, 0 ≤ i → i < q → (-20 ≤ f i ∧ f i ≤ 20) ∧ (-20 ≤ g i ∧ g i ≤ 20) := fun i i0 i1 => (Q.2.2.2.2.2.2 i i0 i1).2.2
  have Ar : ∀ i j : Nat, i < k → j < k → -20000 ≤ Gx α l 1 (d i) (d j) ∧ Gx α l 1 (d i) (d j) ≤ 20000 := fun i j hi hj => by
    have := Gx_r (x := 1) ok l0 l1 (cd.2.2.1 i hi).2 (cd.2.2.1 j hj).2; omega
  have Rr : ∀ i : Nat, i < k → 0 ≤ rho α l f g q (d i) ∧ rho α l f g q (d i) ≤ 100000 := fun i hi => by
    have := rho_r ok l0 l1 (cd.2.2.1 i hi).2 hq q (Nat.le_refl _); omega
  refine bk_X2_prepare zz la_8 (c_measure cs ok l0 l1 (Or.inr rfl) cd (fun σ2 c2 o2 v2 => ⟨c2.fix, ?_⟩))
  have e11 : σ2 1 11 = σ 1 11 := by rw [o2 1 (by decide)]
  have cd2 : CD σ2 α k d := cd.fr (by rw [o2 11 (by decide)]) (o2 12 (by decide))
  have Q2 : PL σ2 8 6 q f g := Q.fr (o2 8 (by decide)) (o2 9 (by decide)) (o2 10 (by decide))
  rw [← e11]
  refine c_reachOut c2 ok l0 l1 cd2 Q2 (fun σ5 c5 o5 p5 v5 => ?_)
  have o5r : ∀ c : Int, c ≠ 14 → c ≠ 11 → σ5 c = σ2 c := fun c a b => by funext i; exact o5 c i a (fun w => b w.1)
  have cd5 : CD σ5 α k d := cd2.fr (o5 11 4 (by decide) (by decide)) (o5r 12 (by decide) (by decide))
  have v13 : ∀ i j : Nat, i < k → j < k → σ5 13 ((i : Int) * 8 + j) = Gx α l 1 (d i) (d j) := fun i j hi hj => by rw [o5r 13 (by decide) (by decide)]; exact v2 i j hi hj
  have ou5 : Ou 11 140 σ σ5 := fun c hc => by rw [o5r c (by omega) (by omega), o2 c (by omega)]
  refine c_fillSquare (α := α) (A := fun i j => Gx α l 1 (d i) (d j)) k8 cd5.1 c5.1.2.2.1 c5.1.wn v13 Ar (fun σ7 w7 o7 n7 v7 => ?_)
  have cd7 : CD σ7 α k d := cd5.fr (by rw [o7 11 (by decide)]) (o7 12 (by decide))
  have e17 : σ7 17 = σ5 17 := o7 17 (by decide)
  refine c_fillRight (A := fun i j => Gx α l 1 (d i) (d j)) (ρ := fun i => rho α l f g q (d i)) (P := q) k8 k1 cd7.1 (by rw [o7 11 (by decide)]; exact p5) (by omega) (by omega) (by rw [e17]; exact c5.1.2.2.1) n7 (fun i j hi hj => by rw [o7 13 (by decide)]; exact v13 i j hi hj) Ar (fun i hi => by rw [o7 14 (by decide)]; exact v5 i hi) Rr (fun σ9 w9 o9 n9 v9 u9 => ⟨n9.1, ?_⟩)
  have cd9 : CD σ9 α k d := cd7.fr (by rw [o9 11 (by decide)]) (o9 12 (by decide))
  have e17b : σ9 17 = σ7 17 := o9 17 (by decide)
  have ou9 : Ou 11 140 σ σ9 := ou5.trans ((o7.mono (by decide) (by decide)).trans (o9.mono (by decide) (by decide)))
  have g9 : GP (σ9 17) := by rw [e17b, e17]; exact c5.1.2.2.1
  refine bk_X2_unknowns ?_
  rw [cd9.1, show max 0 ((k : Int) - 1) = ((k - 1 : Nat) : Int) by omega]
  refine ⟨by constructor <;> omega, ?_⟩
  refine c_solve (w := w9) (u := k - 1) (v := sqr (k - 1) (fun i j => Gx α l 1 (d i) (d j)) (fun i => rho α l f g q (d i)) q) (by omega) g9 n9 (fun i j hi hj => ?_) (fun j r hj hr => ?_) (fun σ' w' n' g' o' nk => ?_) (fun σ' w' n' g' o' kf dn db yb sol => ?_)
  · rw [e17b]
    unfold sqr
    by_cases q : j < k - 1
    · rw [if_pos q, u9 i j (by omega) (by omega), e17]
      exact v7 i j (by omega) (by omega)
    · have : j = k - 1 := by omega
      subst this
      rw [if_neg q]
      exact v9 i (by omega)
  · unfold sqr
    dsimp only
    have a1 := Ar (r + 1) 0 (by omega) (by omega)
    have a4 := Ar 0 0 (by omega) (by omega)
    split
    · have a2 := Ar 0 (j + 1) (by omega) (by omega)
      have a3 := Ar (r + 1) (j + 1) (by omega) (by omega)
      omega
    · have r1 := Rr 0 (by omega)
      have r2 := Rr (r + 1) (by omega)
      have pb := z_pb (x := (q : Int)) (y := Gx α l 1 (d (r + 1)) (d 0) - Gx α l 1 (d 0) (d 0)) (A := 6) (F := 32200) (by omega) (by omega) (by have := Gx_r (x := 1) ok l0 l1 (cd.2.2.1 (r + 1) (by omega)).2 (cd.2.2.1 0 (by omega)).2; have := Gx_r (x := 1) ok l0 l1 (cd.2.2.1 0 (by omega)).2 (cd.2.2.1 0 (by omega)).2; omega) (by have := Gx_r (x := 1) ok l0 l1 (cd.2.2.1 (r + 1) (by omega)).2 (cd.2.2.1 0 (by omega)).2; have := Gx_r (x := 1) ok l0 l1 (cd.2.2.1 0 (by omega)).2 (cd.2.2.1 0 (by omega)).2; omega) (by decide)
      omega
  · refine h0 σ' (cs.grid n' g' (ou9.trans (o'.mono (by decide) (by decide)))) (ou9.trans (o'.mono (by decide) (by decide))) (fun kb => nk ?_)
    have := (kb_class (u := k - 1) (a := fun i j => Gx α l 1 (d i) (d j)) (ρ := fun i => rho α l f g q (d i)) (P := (q : Int)))
    rw [show k - 1 + 1 = k by omega] at this
    exact this.mpr kb
  · have kb := (kb_class (u := k - 1) (a := fun i j => Gx α l 1 (d i) (d j)) (ρ := fun i => rho α l f g q (d i)) (P := (q : Int)))
    rw [show k - 1 + 1 = k by omega] at kb
    refine h1 σ' w' (cs.grid n' g' (ou9.trans (o'.mono (by decide) (by decide)))) (ou9.trans (o'.mono (by decide) (by decide))) n' (cd9.fr (by rw [o' 11 (by decide)]) (o' 12 (by decide))) ?_ (fun i j hi hj => ?_) (fun i hi => ?_) (kb.mp kf) dn db yb sol
    · rw [o' 11 (by decide), o9 11 (by decide), o7 11 (by decide)]; exact p5
    · rw [o' 13 (by decide), o9 13 (by decide), o7 13 (by decide)]; exact v13 i j hi hj
    · rw [o' 14 (by decide), o9 14 (by decide), o7 14 (by decide)]; exact v5 i hi
