/-- t over b in lowest terms is u over v -/
def lowt (t b u v : Int) : Prop := 0 < v ∧ u * b = t * v ∧ ∀ d : Int, d ∣ u → d ∣ v → d ∣ 1
theorem lt_signs {sa sb x y g : Int} (hs : sb = -1 ∨ sb = 1) : sa * sb * x * (sb * (g * y)) = sa * (g * x) * (sb * sb * y) := by
  rcases hs with e | e <;> rw [e] <;> grind
theorem lowt_of {sa sb A B g : Int} (hs : sb = -1 ∨ sb = 1) (hsa : sa = -1 ∨ sa = 1 ∨ A = 0) (hg : gx g A B) (hB : 0 < B) : lowt (sa * A) (sb * B) (sa * sb * (A / g)) (sb * sb * (B / g)) := by
  obtain ⟨g0, hd⟩ := hg
  obtain ⟨⟨x, hx⟩, ⟨y, hy⟩⟩ := (hd g).mp (Int.dvd_refl g)
  have gp : 0 < g := by
    rcases Int.lt_or_le 0 g with w | w
    · exact w
    · have : g = 0 := by omega
      rw [this, Int.zero_mul] at hy; omega
  have ex : A / g = x := by rw [hx]; exact Int.mul_ediv_cancel_left _ (by omega)
  have ey : B / g = y := by rw [hy]; exact Int.mul_ediv_cancel_left _ (by omega)
  have yp : 0 < y := by
    rcases Int.lt_or_le 0 y with w | w
    · exact w
    · have := Int.mul_nonpos_of_nonneg_of_nonpos g0 w
      omega
  have hss : sb * sb = 1 := by rcases hs with e | e <;> rw [e] <;> decide
  rw [ex, ey]
  refine ⟨by rw [hss]; omega, ?_, ?_⟩
  · rw [hx, hy]; exact lt_signs hs
  · intro d d1 d2
    rw [hss, Int.one_mul] at d2
    have hA : g * d ∣ B := by rw [hy]; exact Int.mul_dvd_mul (Int.dvd_refl g) d2
    have hsx : d ∣ sa * x := by
      have : sa * x = sa * sb * x * sb := by
        have : sa * sb * x * sb = sa * x * (sb * sb) := by grind
        rw [this, hss, Int.mul_one]
      rw [this]; exact Int.dvd_trans d1 (Int.dvd_mul_right _ _)
    have hdx : d ∣ x := by
      rcases hsa with e | e | e
      · rw [e] at hsx
        have := Int.dvd_neg.mpr hsx
        rw [show -(-1 * x) = x by omega] at this; exact this
      · rw [e, Int.one_mul] at hsx; exact hsx
      · rw [e] at hx
        rcases Int.mul_eq_zero.mp hx.symm with w | w
        · omega
        · rw [w]; exact Int.dvd_zero _
    have hB2 : g * d ∣ A := by rw [hx]; exact Int.mul_dvd_mul (Int.dvd_refl g) hdx
    obtain ⟨z, hz⟩ := (hd _).mpr ⟨hB2, hA⟩
    refine ⟨z, ?_⟩
    rw [Int.mul_assoc] at hz
    have := Int.eq_of_mul_eq_mul_left (show g ≠ 0 by omega) (show g * 1 = g * (d * z) by omega)
    exact this
theorem z_cop {a b c : Int} (h : a ∣ b * c) (hg : Int.gcd a b = 1) : a ∣ c := by
  have h1 := Int.natAbs_dvd_natAbs.mpr h
  rw [Int.natAbs_mul] at h1
  exact Int.natAbs_dvd_natAbs.mp (Nat.Coprime.dvd_of_dvd_mul_left (k := a.natAbs) (m := b.natAbs) (n := c.natAbs) hg h1)
theorem lowt_uniq {t b u v t' b' u' v' : Int} (hb : b ≠ 0) (hb' : b' ≠ 0) (he : t * b' = t' * b) (h1 : lowt t b u v) (h2 : lowt t' b' u' v') : u = u' ∧ v = v' := by
  obtain ⟨p1, e1, c1⟩ := h1
  obtain ⟨p2, e2, c2⟩ := h2
  have key : u * v' = u' * v := by
    have w : (u * v') * (b * b') = (u' * v) * (b * b') := by
      have a1 : (u * v') * (b * b') = (u * b) * (v' * b') := by grind
      have a2 : (u' * v) * (b * b') = (u' * b') * (v * b) := by grind
      have a3 : t * v * (v' * b') = t * b' * (v * v') := by grind
      have a4 : t' * v' * (v * b) = t' * b * (v * v') := by grind
      rw [a1, a2, e1, e2, a3, a4, he]
    exact Int.eq_of_mul_eq_mul_right (Int.mul_ne_zero hb hb') w
  have g1 : Int.gcd u v = 1 := by
    have := c1 (Int.gcd u v) (Int.gcd_dvd_left u v) (Int.gcd_dvd_right u v)
    have h := Int.ofNat_dvd.mp (show ((Int.gcd u v : Nat) : Int) ∣ ((1 : Nat) : Int) from this)
    exact Nat.dvd_one.mp h
  have g2 : Int.gcd u' v' = 1 := by
    have := c2 (Int.gcd u' v') (Int.gcd_dvd_left u' v') (Int.gcd_dvd_right u' v')
    have h := Int.ofNat_dvd.mp (show ((Int.gcd u' v' : Nat) : Int) ∣ ((1 : Nat) : Int) from this)
    exact Nat.dvd_one.mp h
  have d1 : v ∣ v' := z_cop (show v ∣ u * v' by rw [key]; exact Int.dvd_mul_left _ _) (by rw [Int.gcd_comm]; exact g1)
  have d2 : v' ∣ v := z_cop (show v' ∣ u' * v by rw [← key]; exact Int.dvd_mul_left _ _) (by rw [Int.gcd_comm]; exact g2)
  have ev : v = v' := Int.dvd_antisymm (Int.le_of_lt p1) (Int.le_of_lt p2) d1 d2
  subst ev
  exact ⟨Int.eq_of_mul_eq_mul_right (by omega) key, rfl⟩
theorem c_reduce {X : ZS} {σ : ZM} {T : ZM → Prop} {p : Int} (hp : z_l p = (3, 2)) (n1 : 178 < p) (hf : Fix σ) (hA : AW σ) (hb : wv σ (p + 3) ≠ 0)
    (h : ∀ σ', Fix σ' → AW σ' → (∀ c : Int, c < 170 ∨ 178 < c → c < p + 1 ∨ p + 4 < c → σ' c = σ c) → lowt (wv σ (p + 1)) (wv σ (p + 3)) (wv σ' (p + 1)) (wv σ' (p + 3)) → T σ') : ZC X (rX10_reduce zN) mX10_reduce [(2, 169), (2, p)] zN σ (zQv T) := by
  have p1 := zo_3_0 hp
  have p3 := zo_3_1 hp
  refine bk_X10_reduce hp (c_findShared hp n1 hf hA (fun r σ2 hr f2 A2 o2 hg => ?_))
  have lr : z_l r = (9, 3) := by rcases hr with w | w <;> rw [w]; exact la_173; exact la_175
  have e1 : σ2 (p + 1) = σ (p + 1) := o2 _ (by omega)
  have e2 : σ2 (p + 2) = σ (p + 2) := o2 _ (by omega)
  have e3 : σ2 (p + 3) = σ (p + 3) := o2 _ (by omega)
  have e4 : σ2 (p + 4) = σ (p + 4) := o2 _ (by omega)
  have b0 : wm σ (p + 3) ≠ 0 := fun w => hb (by unfold wv; rw [w, Int.mul_zero])
  have bp := (hA _ p3).lt (Nat.le_refl _) (hA _ p3).2.1
  have g0 : wm σ2 r ≠ 0 := by
    intro w
    have := ((hg.2 0).mp (by rw [w]; exact Int.dvd_zero _)).2
    exact b0 (Int.zero_dvd.mp this)
  have wr := A2 r lr
  have sbne := (hA _ p3).2.2.2.2.2.2
  have z3 := (hA _ p3).zero
  have sb3 := (hA _ p3).2.2.2.2.2.1
  refine ⟨lr, wr.s32, fun w => ⟨f2, ?_⟩, fun w => absurd (wr.zero.mpr w) g0⟩
  rw [e3]
  obtain ⟨s, hs⟩ : ∃ s : Int, s = σ (p + 3) 2 := ⟨_, rfl⟩
  rw [← hs] at sb3 sbne ⊢
  have hs1 : s = -1 ∨ s = 1 := by omega
  obtain ⟨τ, hτ⟩ : ∃ τ : ZM, τ = z_up σ2 r 2 s := ⟨_, rfl⟩
  rw [← hτ]
  have oτ : OnW r σ2 τ := by rw [hτ]; exact OnW.rfl'.up1 2 (Or.inr rfl)
  have τ1 : τ r 1 = σ2 r 1 := by rw [hτ, z_up_ne _ (Or.inr (by decide))]
  have τ2 : τ r 2 = s := by rw [hτ]; exact z_up_same _ _ _ _
  have τr : τ (r + 1) = σ2 (r + 1) := by rw [hτ, z_up_far _ _ _ (by omega)]
  have wτ : WF τ r := by
    obtain ⟨a1, a2, a3, a4, a5, a6, a7⟩ := wr
    unfold WF
    rw [τ1, τ2, τr]
    exact ⟨a1, a2, a3, a4, a5, by omega, by omega⟩
  have fτ := oτ.fix lr f2
  have Aτ := oτ.aw lr wτ A2
  have mτ : wm τ r = wm σ2 r := by unfold wm; rw [τr]
  have hne : wv τ r ≠ 0 := by
    intro w
    have := wτ.abs
    rw [w, mτ] at this
    exact g0 this.symm
  have t1 : τ (p + 1) = σ (p + 1) := by rw [hτ, z_up_far _ _ _ (by omega), e1]
  have t2 : τ (p + 1 + 1) = σ (p + 1 + 1) := by rw [hτ, z_up_far _ _ _ (by omega), o2 _ (by omega)]
  refine c_divide la_170 p1 lr p1 (by omega) fτ (Aτ _ p1) wτ (Aτ _ p1) hne (fun σ7 o7 w7 v7 rs7 => ?_)
  have f7 := o7.fix la_170 p1 fτ
  have A7 := o7.aw la_170 p1 w7 Aτ
  have r7 := o7.oth la_170 p1 lr (by omega)
  have b7 := o7.oth la_170 p1 p3 (by omega)
  have m7 : wm σ7 r = wm σ2 r := by unfold wm; rw [r7.2, τr]
  have hne7 : wv σ7 r ≠ 0 := by
    intro w
    have := (A7 _ lr).abs
    rw [w, m7] at this
    exact g0 this.symm
  refine ⟨f7, c_divide la_170 p3 lr p3 (by omega) f7 (A7 _ p3) (A7 _ lr) (A7 _ p3) hne7 (fun σ10 o10 w10 v10 rs10 => ?_)⟩
  refine h σ10 (o10.fix la_170 p3 f7) (o10.aw la_170 p3 w10 A7) (fun c h1 h2 => ?_) ?_
  · rw [show σ10 c = σ7 c from by funext i; exact o10 c i (by omega) (by omega) (by omega) (by omega) (by omega), show σ7 c = τ c from by funext i; exact o7 c i (by omega) (by omega) (by omega) (by omega) (by omega), hτ, z_up_far _ _ _ (by omega), o2 c (by omega)]
  · have u1 : wv σ10 (p + 1) = σ (p + 1) 2 * s * (wm σ (p + 1) / wm σ2 r) := by
      rw [(o10.wf la_170 p3 p1 (by omega) (A7 _ p1)).2.1, v7, t1, τ2, mτ]
      unfold wm
      rw [t2]
    have u3 : wv σ10 (p + 3) = s * s * (wm σ (p + 3) / wm σ2 r) := by
      rw [v10, m7, r7.1 2, τ2, b7.1 2]
      unfold wm
      rw [b7.2]
      have x1 : τ (p + 3) = σ (p + 3) := by rw [hτ, z_up_far _ _ _ (by omega), e3]
      have x2 : τ (p + 3 + 1) = σ (p + 3 + 1) := by rw [hτ, z_up_far _ _ _ (by omega), o2 _ (by omega)]
      rw [x1, x2, ← hs]
    rw [u1, u3]
    unfold wv
    rw [← hs]
    refine lowt_of hs1 ?_ hg (by omega)
    have a6 := (hA _ p1).2.2.2.2.2.1
    have a7 := (hA _ p1).2.2.2.2.2.2
    have a8 := (hA _ p1).zero
    omega
theorem c_fcopy {X : ZS} {σ : ZM} {T : ZM → Prop} {p q : Int} (hp : z_l p = (3, 2)) (hq : z_l q = (3, 2)) (hpq : q < p ∨ p + 4 < q) (hqp : q + 4 < p ∨ p < q) (hf : Fix σ) (hA : AW σ)
    (h : ∀ σ', Fix σ' → AW σ' → Ou (p + 1) (p + 4) σ σ' → wv σ' (p + 1) = wv σ (q + 1) → wv σ' (p + 3) = wv σ (q + 3) → T σ') : ZC X (rX3_copyFrom zN) mX3_copyFrom [(2, p), (2, q)] zN σ (zQv T) := by
  have p1 := zo_3_0 hp
  have p3 := zo_3_1 hp
  have q1 := zo_3_0 hq
  have q3 := zo_3_1 hq
  refine bk_X3_copyFrom hp hq ⟨hf, c_copyFrom p1 q1 (by omega) hf (hA _ p1) (hA _ q1) (fun σ3 o3 w3 v3 => ?_)⟩
  have f3 := o3.fix p1 hf
  have A3 := o3.aw p1 w3 hA
  refine ⟨f3, c_copyFrom p3 q3 (by omega) f3 (A3 _ p3) (A3 _ q3) (fun σ6 o6 w6 v6 => ?_)⟩
  refine h σ6 (o6.fix p3 f3) (o6.aw p3 w6 A3) ((Ou.ofW o3 (by omega) (by omega)).trans (Ou.ofW o6 (by omega) (by omega))) ?_ ?_
  · rw [o6.val p3 p1 (by omega), v3]
  · rw [v6, o3.val p1 q3 (by omega)]
theorem c_setResult {X : ZS} {σ : ZM} {T : Bool → ZM → Prop} {a b : Int} (ha : z_l a = (9, 3)) (hb : z_l b = (9, 3)) (na : a < 170 ∨ 183 < a) (nb : b < 170 ∨ 183 < b) (hf : Fix σ) (hA : AW σ) (hb0 : wv σ b ≠ 0)
    (h : ∀ σ', Fix σ' → AW σ' → Ou 170 183 σ σ' → lowt (wv σ a) (wv σ b) (wv σ' 180) (wv σ' 182) → T true σ') : ZC X (rX11_setResult zN) mX11_setResult [(2, 1), (2, a), (2, b)] zN σ (zQz T) := by
  refine bk_X11_setResult ha hb ⟨hf, c_copyFrom la_180 ha (by omega) hf (hA _ la_180) (hA _ ha) (fun σ3 o3 w3 v3 => ?_)⟩
  have f3 := o3.fix la_180 hf
  have A3 := o3.aw la_180 w3 hA
  refine ⟨f3, c_copyFrom la_182 hb (by omega) f3 (A3 _ la_182) (A3 _ hb) (fun σ6 o6 w6 v6 => ?_)⟩
  have f6 := o6.fix la_182 f3
  have A6 := o6.aw la_182 w6 A3
  rw [o3.val la_180 hb (by omega)] at v6
  have v3' : wv σ6 180 = wv σ a := by rw [o6.val la_182 la_180 (by decide), v3]
  refine ⟨f6, c_reduce (p := 179) la_179 (by decide) f6 A6 (by rw [show (179 : Int) + 3 = 182 by decide, v6]; exact hb0) (fun σ9 f9 A9 o9 l9 => ?_)⟩
  rw [show (179 : Int) + 3 = 182 by decide, show (179 : Int) + 1 = 180 by decide, v6, v3'] at l9
  refine h σ9 f9 A9 (fun c hc => ?_) l9
  rw [o9 c (by omega) (by omega), (Ou.ofW (lo := 170) (hi := 183) o6 (by decide) (by decide)) c hc, (Ou.ofW (lo := 170) (hi := 183) o3 (by decide) (by decide)) c hc]
