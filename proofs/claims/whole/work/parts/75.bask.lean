theorem fa7c {n : Nat} (h : n ≤ 7) : 1000000000 * fa 300000 n < pw 12 := by
  have h1 := fa_mono (A := 300000) (by decide) h
  have h2 : 1000000000 * fa 300000 7 < pw 12 := by unfold pw; decide +kernel
  omega
theorem b_guess {X : ZS} {σ α : ZM} {T : Int → ZM → Prop} {q : Nat} {f g : Int → Int} (cs : CS σ α) (ok : Ok α) (u0 : α 0 2 ≠ -1) (S1 : 1 ≤ α 0 0) (Q : PL σ 8 6 q f g) (q1 : 1 ≤ q)
    (h : ∀ σ', Ou 1 210 σ σ' → CS σ' (s_guess α f g q) → T (o_guess α f g q) σ') : ZC X (rX11_guessForAsked zN) mX11_guessForAsked [(2, 1)] zN σ (zQi T) := by
  have hf := cs.fix
  have s8 := ok.s
  have hu := ok.u
  have hn := ok.n
  have q6 : q ≤ 6 := Q.2.2.2.2.1
  have cm := cs.2.2.2.2.1
  have gg := cs.2.2.1
  have pl := gg.pl ok
  have hsv : σ 1 11 = 199 ∨ σ 1 11 = 205 := by have := gg.1; omega
  have hq : ∀ i : Int, 0 ≤ i → i < q → (-20 ≤ f i ∧ f i ≤ 20) ∧ (-20 ≤ g i ∧ g i ≤ 20) := fun i i0 i1 => (Q.2.2.2.2.2.2 i i0 i1).2.2
  have l0 : 0 ≤ α 0 2 := by omega
  refine bk_X11_guessForAsked ?_
  rw [cm.2.1]
  refine ⟨hf, pl.1, c_chooseNearest hf pl.2 Q hn.1 hn.2 (by omega) (by omega) (by decide) (by decide) (fun σ4 f4 o4 p4 ch => ⟨f4, ?_⟩)⟩
  have chd : CH σ4 (nC α f g q) (α 0 0).toNat := ch
  have hC' : ∀ s, nC α f g q s = true → s < (α 0 0).toNat := fun s hs => (of_decide_eq_true hs).1
  have hC : ∀ s, nC α f g q s = true → (s : Int) < α 0 0 := fun s hs => by have := hC' s hs; omega
  obtain ⟨d, od, hd⟩ := chd.ord (by omega) hC'
  obtain ⟨sx, sx1, sx2⟩ : ∃ s, s < (α 0 0).toNat ∧ nC α f g q s = true := near_ex (by omega) hn.1
  have kpos := cn_pos sx1 sx2
  have k8 : cn (nC α f g q) (α 0 0).toNat ≤ 8 := Nat.le_trans (cn_le _ _) (by omega)
  obtain ⟨u, hu2⟩ : ∃ u, cn (nC α f g q) (α 0 0).toNat = u + 1 := ⟨_, (Nat.sub_add_cancel kpos).symm⟩
  have c4 := chd.1
  rw [hu2] at od hd c4 k8
  have cs4 : CS σ4 α := cs.tmp (cs.1.fr f4 (fun c _ _ _ => o4 c (by omega))) (fun c hc => o4 c (by omega))
  have cd : CD σ4 α (u + 1) d := od.cd c4 k8 hd hC
  have Q4 : PL σ4 8 6 q f g := Q.fr (o4 8 (by decide)) (o4 9 (by decide)) (o4 10 (by decide))
  have kfi : KFB (u + 1) (fun i j => Gx α (α 0 2) 1 (d i) (d j)) ↔ kG α f g q := od.kf (Gx α (α 0 2) 1)
  rw [show σ4 1 13 = α 0 2 by rw [o4 1 (by decide)]; exact cm.1]
  refine c_psolve cs4 ok l0 hu.2 cd (by omega) Q4 (fun σ' c' o' nk => ⟨fun q => (by cases q), fun _ => ?_⟩) (fun σ' w' c' o' n' cd' p5 v13 v14 kb dn db yb sol => ⟨fun _ => ⟨n'.1, ?_⟩, fun q => (by cases q)⟩)
  · have nk' : ¬ kG α f g q := fun w => nk (kfi.mpr w)
    have := h σ' (fun c hc => by rw [o' c (by omega), o4 c (by omega)]) (by unfold s_guess; rw [if_neg nk']; exact c')
    unfold o_guess at this
    rw [if_neg nk'] at this; exact this
  · have kf := kfi.mp kb
    unfold o_guess s_guess at h
    rw [if_pos kf, if_pos kf] at h
    rw [show u + 1 - 1 = u by omega] at db yb sol
    have cm' := c'.2.2.2.2.1
    have gg' := c'.2.2.1
    rw [cm'.1]
    have Q' : PL σ' 8 6 q f g := Q4.fr (o' 8 (by decide)) (o' 9 (by decide)) (o' 10 (by decide))
    refine c_unlikeWithin c' ok l0 hu.2 Q' ?_
    obtain ⟨y, hy⟩ : ∃ y : Nat → Int, y = fun l : Nat => w' (σ' 17 ((l : Int) * 8 + (u : Int))) := ⟨_, rfl⟩
    have yb' : ∀ l : Nat, l < u → -fa 300000 u ≤ y l ∧ y l ≤ fa 300000 u := fun l hl => by rw [hy]; exact yb l hl
    have Fp := fa_pos (A := 300000) (by decide) u
    have sol' : ∀ r, r < u → w' 20 * sqr u (fun i j => Gx α (α 0 2) 1 (d i) (d j)) (fun j => rho α (α 0 2) f g q (d j)) (q : Int) u r = sm (fun l' => y l' * sqr u (fun i j => Gx α (α 0 2) 1 (d i) (d j)) (fun j => rho α (α 0 2) f g q (d j)) (q : Int) l' r) u := by rw [hy]; exact sol
    have SI := class_sol (C := nC α f g q) (G := Gx α (α 0 2) 1) (ρ := rho α (α 0 2) f g q) (P := (q : Int)) od dn sol'
    have E := an_eqf q1 kf ⟨sx, by omega, sx2⟩ SI
    have e11 : σ' 1 11 = σ 1 11 := by rw [o' 1 (by decide), o4 1 (by decide)]
    rw [e11]
    have gr := gg'.2.2
    rw [e11] at gr
    refine c_take (α := α) (C := nC α f g q) (D := w' 20) (P := (q : Int)) (F := fa 300000 u) (y := y) (nu := fun j => α 3 (d j)) (a := fun j => Gx α (α 0 2) 1 (d 0) (d j)) (ρ := fun j => rho α (α 0 2) f g q (d j)) hsv n' c'.1.2.2.1 c'.1.2.2.2 od cd' p5 (by omega) (by omega) rfl (fun l hl => by rw [hy]) (fun j hj => (gr (d j : Nat) (by omega) (cd'.2.2.1 j hj).2).2.2.1) (fun j hj => ?_) v14 (by omega) (fa7c (by omega)) db yb' (fun j hj => (ok.g (d j : Nat) (by omega) (cd'.2.2.1 j hj).2).2.2.1) (fun j hj => ?_) (fun j hj => ?_) (uw_r ok l0 hu.2 q6 hq) (fun σ17 w17 o17 e142 e6 n17 vd vc v47 v51 v43 v45 v49 => ?_)
    · have := v13 0 j (by omega) hj
      rw [show ((0 : Nat) : Int) * 8 + (j : Int) = j by omega] at this
      exact this
    · have := Gx_r (x := 1) ok l0 hu.2 (cd'.2.2.1 0 (by omega)).2 (cd'.2.2.1 j hj).2
      omega
    · have := rho_r ok l0 hu.2 (cd'.2.2.1 j hj).2 hq q (Nat.le_refl _)
      omega
    · have ouf : Ou 1 210 σ σ17 := fun c hc => by rw [o17 c (by omega), o' c (by omega), o4 c (by omega)]
      refine h σ17 ouf ?_
      -- the new state
      obtain ⟨b, l, g2, w, m, an, r⟩ := c'
      have W : ∀ a : Int, z_l a = (9, 3) → wv σ17 a = w17 a := fun a ha => n17.val ha
      refine ⟨⟨n17.1, n17.2.1, by rw [o17 17 (by decide)]; exact b.2.2.1, by rw [e142]; exact b.2.2.2⟩, l.fr (o17 3 (by decide)) (o17 4 (by decide)) (o17 5 (by decide)) rfl rfl rfl, g2.fr (by rw [o17 1 (by decide)]) (by rw [o17 1 (by decide)]) (fun c h1 h2 => o17 c (by omega)) rfl rfl rfl rfl rfl, w.fr (by rw [o17 6 (by decide)]) (o17 7 (by decide)) rfl rfl, ⟨by rw [o17 1 (by decide)]; exact m.1, by rw [o17 1 (by decide)]; exact m.2.1, e6⟩, ?_, r.fr (fun c _ _ => o17 c (by omega)) rfl⟩
      intro _ k k0 k1
      show eqf (wv σ17 (aT k)) (wv σ17 (aB k)) (anT α f g q k) (anB α f g q k)
      have ws3 := od.wsum (wts (w' 20) (q : Int) u y) (fun t => α 3 t)
      have wsr := od.wsum (wts (w' 20) (q : Int) u y) (fun t => rho α (α 0 2) f g q t)
      by_cases e0 : k = 0
      · subst e0
        show eqf (wv σ17 143) (wv σ17 147) _ _
        rw [W _ la_143, W _ la_147, v43, v47, ← ws3]
        exact E.1
      · by_cases e1 : k = 1
        · subst e1
          show eqf (wv σ17 149) (wv σ17 151) _ _
          rw [W _ la_149, W _ la_151, v49, v51, ← wsr]
          exact E.2.1
        · by_cases e2 : k = 2
          · subst e2
            show eqf (wv σ17 145) (wv σ17 147) _ _
            rw [W _ la_145, W _ la_147, v45, v47]
            exact E.2.2.1
          · obtain ⟨s, hs⟩ : ∃ s : Nat, k = 3 + s := ⟨(k - 3).toNat, by omega⟩
            have s7 : s < 8 := by omega
            have aT3 : aT k = 153 + 2 * (s : Int) := by unfold aT; rw [if_neg e0, if_neg e1, if_neg e2]; omega
            have aB3 : aB k = 147 := by unfold aB; rw [if_neg e1]
            rw [aT3, aB3, W _ (la_w (by omega) (by omega)), W _ la_147, v47, hs]
            have Es := E.2.2.2 s s7
            by_cases cc : nC α f g q s = true
            · obtain ⟨j, hj, dj⟩ := od.2.2 s s7 cc
              have := vd j hj
              rw [dj] at this
              rw [this]
              have sp := od.spr (wts (w' 20) (q : Int) u y) hj
              rw [dj] at sp
              rw [← sp]
              exact Es.1 cc
            · have cf : nC α f g q s = false := by cases hh : nC α f g q s; rfl; exact absurd hh cc
              rw [vc s s7 cf]
              exact Es.2 cf _ (Int.mul_ne_zero dn (by omega))
noncomputable def o_ask (α : ZM) (x y : Int) : Int := if ¬ (-20 ≤ x ∧ x ≤ 20 ∧ -20 ≤ y ∧ y ≤ 20) then -4 else if α 0 2 = -1 ∨ α 0 0 = 0 then -5 else o_guess α (fun _ => x) (fun _ => y) 1
noncomputable def s_ask (α : ZM) (x y : Int) : ZM := if ¬ (-20 ≤ x ∧ x ≤ 20 ∧ -20 ≤ y ∧ y ≤ 20) then α else if α 0 2 = -1 ∨ α 0 0 = 0 then α else s_guess α (fun _ => x) (fun _ => y) 1
theorem ok_ask {α : ZM} {x y : Int} (ok : Ok α) : Ok (s_ask α x y) := by
  unfold s_ask
  split
  · exact ok
  · split
    · exact ok
    · exact ok_guess ok
theorem c_canGuess {X : ZS} {σ α : ZM} {T : Bool → ZM → Prop} (cs : CS σ α) (ok : Ok α) (h1 : ¬ (α 0 2 = -1 ∨ α 0 0 = 0) → T true σ) (h0 : (α 0 2 = -1 ∨ α 0 0 = 0) → T false σ) : ZC X (rX11_canGuess zN) mX11_canGuess [(2, 1)] zN σ (zQz T) := by
  have cm := cs.2.2.2.2.1.1
  have u := ok.u
  have s8 := ok.s
  have L := ok.l
  have pl := cs.2.2.1.pl ok
  have gz := cs.2.2.1.2.1
  exact bk_X11_canGuess ⟨by rw [cm]; constructor <;> omega, fun q => h0 (Or.inl (by rw [← cm]; exact q)), fun q => ⟨pl.1, cs.fix, by rw [gz]; constructor <;> omega, fun q2 => h0 (Or.inr (by rw [gz] at q2; omega)), fun q2 => h1 (by rw [gz] at q2; rw [cm] at q; omega)⟩⟩
theorem b_ask {X : ZS} {σ α : ZM} {T : Int → ZM → Prop} {x y : Int} (hx : r32 x) (hy : r32 y) (cs : CS σ α) (ok : Ok α) (h : ∀ σ', Ou 1 210 σ σ' → CS σ' (s_ask α x y) → T (o_ask α x y) σ') : ZC X (rX11_ask zN) mX11_ask [(2, 1), (0, x), (0, y)] zN σ (zQi T) := by
  have s8 := ok.s
  refine bk_X11_ask (c_isPlace hx hy (fun p => ⟨fun _ => ?_, fun q => (by cases q)⟩) (fun p => ⟨fun q => (by cases q), fun _ => ?_⟩))
  · have pp : ¬ ¬ (-20 ≤ x ∧ x ≤ 20 ∧ -20 ≤ y ∧ y ≤ 20) := fun q => q p
    refine c_canGuess cs ok (fun ng => ⟨fun _ => ⟨cs.fix, bk_X6_clear la_8 ?_⟩, fun q => (by cases q)⟩) (fun ng => ⟨fun q => (by cases q), fun _ => ?_⟩)
    · have eo : o_ask α x y = o_guess α (fun _ => x) (fun _ => y) 1 := by unfold o_ask; rw [if_neg pp, if_neg ng]
      have es : s_ask α x y = s_guess α (fun _ => x) (fun _ => y) 1 := by unfold s_ask; rw [if_neg pp, if_neg ng]
      rw [eo, es] at h
      have f9 : Fix (z_up σ 8 2 0) := cs.fix.upF la_8 2 (by decide +kernel)
      refine ⟨f9, bk_X6_add la_8 ?_⟩
      rw [z_up_same, show z_l (8 + 1) = (20, 6) from la_9, show z_l (8 + 2) = (20, 6) from la_10]
      refine ⟨f9, by decide, by decide, fun q => absurd q (by decide), fun _ => ⟨by decide, by decide, by decide, ?_⟩⟩
      obtain ⟨τ, hτ⟩ : ∃ τ : ZM, τ = z_up (z_up (z_up (z_up σ 8 2 0) (8 + 1) 0 x) (8 + 2) 0 y) 8 2 (0 + 1) := ⟨_, rfl⟩
      rw [← hτ]
      have fτ : Fix τ := by rw [hτ]; exact ((f9.upA (a := 9) la_9 (by decide)).upA (a := 10) la_10 (by decide)).upF la_8 2 (by decide +kernel)
      have oτ : ∀ c : Int, c < 8 ∨ 10 < c → τ c = σ c := fun c hc => by
        rw [hτ, z_up_far _ _ _ (by omega), z_up_far _ _ _ (by omega), z_up_far _ _ _ (by omega), z_up_far _ _ _ (by omega)]
      have csτ : CS τ α := cs.fl (cs.1.fr fτ (fun c _ _ _ => oτ c (by omega))) (fun c hc => oτ c (by omega))
      have Qτ : PL τ 8 6 1 (fun _ => x) (fun _ => y) := by
        refine ⟨la_8, la_9, la_10, ?_, by decide, by decide, fun j j0 j1 => ?_⟩
        · rw [hτ, z_up_same]; rfl
        · have : j = 0 := by omega
          subst this
          refine ⟨?_, ?_, ⟨p.1, p.2.1⟩, p.2.2⟩
          · rw [hτ, z_up_far _ _ _ (by decide), z_up_far _ _ _ (by decide), z_up_same]
          · rw [hτ, z_up_far _ _ _ (by decide), z_up_same]
      exact b_guess csτ ok (by omega) (by omega) Qτ (Nat.le_refl _) (fun σ' o' c' => h σ' (fun c hc => by rw [o' c hc, oτ c (by omega)]) c')
    · have eo : o_ask α x y = -5 := by unfold o_ask; rw [if_neg pp, if_pos ng]
      have es : s_ask α x y = α := by unfold s_ask; rw [if_neg pp, if_pos ng]
      rw [eo, es] at h
      exact h σ Ou.rfl' cs
  · have eo : o_ask α x y = -4 := by unfold o_ask; exact if_pos p
    have es : s_ask α x y = α := by unfold s_ask; exact if_pos p
    rw [eo, es] at h
    exact h σ Ou.rfl' cs
