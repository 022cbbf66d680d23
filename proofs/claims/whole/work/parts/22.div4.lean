theorem dv_low {f : Int → Int} {m n : Nat} (hd : dg f (m + n)) (h : dv f (m + n) < pw m) : dv f (m + n) = dv f m ∧ ∀ j : Int, m ≤ j → j < ((m + n : Nat) : Int) → f j = 0 := by
  have hs := dv_split f m n
  have r1 := dv_rng (hd.mono (Nat.le_add_right m n))
  have hdh : dg (sh f m) n := fun j g1 g2 => hd _ (by omega) (by omega)
  have r2 := dv_rng hdh
  have hp := pw_pos m
  have hz : dv (sh f m) n = 0 := by
    apply Classical.byContradiction
    intro w
    have := Int.mul_le_mul_of_nonneg_left (show 1 ≤ dv (sh f m) n by omega) (Int.le_of_lt hp)
    omega
  refine ⟨by rw [hs, hz, Int.mul_zero, Int.add_zero], fun j g1 g2 => ?_⟩
  have := dv_inj hdh (g := fun _ => 0) (fun i _ _ => ⟨Int.le_refl 0, show (0 : Int) < 1000000000 by decide⟩) (by rw [hz]; exact (dv_zero (m := 0) (Nat.zero_le _) (fun _ _ _ => rfl)).symm) (j - m) (by omega) (by omega)
  unfold sh at this
  rw [show (m : Int) + (j - m) = j by omega] at this
  exact this
/-- the scale: its product with the leading part is more than half a part, nearly -/
theorem sc_lead {t s : Int} (h1 : 1 ≤ t) (h2 : t < 1000000000) (hs : s = 1000000000 / (t + 1)) : 1 ≤ s ∧ s ≤ 500000000 ∧ (t + 1) * s ≤ 1000000000 ∧ 250000020 ≤ t * s := by
  have hm := Int.mul_ediv_add_emod 1000000000 (t + 1)
  have hr := Int.emod_lt_of_pos 1000000000 (show 0 < t + 1 by omega)
  have hr0 := Int.emod_nonneg 1000000000 (show t + 1 ≠ 0 by omega)
  rw [← hs] at hm
  have hs1 : 1 ≤ s := by
    apply Classical.byContradiction
    intro w
    have : (t + 1) * s ≤ 0 := Int.mul_nonpos_of_nonneg_of_nonpos (by omega) (by omega)
    omega
  have hs2 : s ≤ 500000000 := by
    apply Classical.byContradiction
    intro w
    have : 2 * s ≤ (t + 1) * s := Int.mul_le_mul_of_nonneg_right (by omega) (by omega)
    omega
  refine ⟨hs1, hs2, by omega, ?_⟩
  have e : (t + 1) * s = t * s + s := by rw [Int.add_mul, Int.one_mul]
  rcases Int.lt_or_le s 2 with w | w
  · have hs3 : s = 1 := by omega
    rw [hs3] at e hm ⊢
    omega
  · have p : 0 ≤ (t + 1 - 2) * (s - 2) := Int.mul_nonneg (by omega) (by omega)
    have e2 : (t + 1 - 2) * (s - 2) = (t + 1) * s - 2 * (t + 1) - 2 * s + 4 := by grind
    omega
theorem dq_end {Q R wa wb s : Int} (hs : 1 ≤ s) (hb : 0 < wb) (he : Q * (wb * s) + R = wa * s) (h0 : 0 ≤ R) (h1 : R < wb * s) : wa / wb = Q ∧ R = wa % wb * s := by
  have e1 : (wa - Q * wb) * s = R := by
    rw [Int.sub_mul, Int.mul_assoc]; omega
  have l0 : 0 ≤ wa - Q * wb := by
    apply Classical.byContradiction
    intro w
    have := Int.mul_le_mul_of_nonneg_right (show wa - Q * wb ≤ -1 by omega) (show 0 ≤ s by omega)
    omega
  have l1 : wa - Q * wb < wb := by
    apply Classical.byContradiction
    intro w
    have := Int.mul_le_mul_of_nonneg_right (show wb ≤ wa - Q * wb by omega) (show 0 ≤ s by omega)
    omega
  have hq : wa / wb = Q := z_ediv_u hb (by rw [Int.mul_comm]; omega) (by rw [Int.mul_comm]; omega)
  refine ⟨hq, ?_⟩
  have := Int.mul_ediv_add_emod wa wb
  rw [hq, Int.mul_comm] at this
  rw [show wa % wb = wa - Q * wb by omega, e1]
theorem c_divide {X : ZS} {σ : ZM} {T : ZM → Prop} {d a b q : Int} (hd : z_l d = (1, 4)) (ha : z_l a = (9, 3)) (hb : z_l b = (9, 3)) (hq : z_l q = (9, 3)) (hqb : b ≠ q) (hf : Fix σ) (hwa : WF σ a) (hwb : WF σ b) (hwq : WF σ q) (hb0 : wv σ b ≠ 0)
    (h : ∀ σ', OnD d q σ σ' → WF σ' q → wv σ' q = σ a 2 * σ b 2 * (wm σ a / wm σ b) → RS σ' d (wm σ a % wm σ b) → T σ') : ZC X (rX1_divide zN) mX1_divide [(2, d), (2, a), (2, b), (2, q)] zN σ (zQv T) := by
  have a1 := hwa.1
  have a2 := hwa.2.1
  have b1 := hwb.1
  have b2 := hwb.2.1
  obtain ⟨n1, n2, n3, n4, n5, n6⟩ := z_kdw hd hq
  obtain ⟨na1, na2, na3, na4, na5, na6⟩ := z_kdw hd ha
  obtain ⟨nb1, nb2, nb3, nb4, nb5, nb6⟩ := z_kdw hd hb
  have hnn := z_leN (zo_9_0 hq) (by decide)
  have hbn : σ b 1 ≠ 0 := fun w => hb0 (by unfold wv; rw [hwb.zero.mpr w, Int.mul_zero])
  have hbm : 0 < wm σ b := by
    have h1 := (hwb.lt (m := 12) (Nat.le_refl _) hwb.2.1).1
    have h2 := hwb.zero
    omega
  have ham := (hwa.lt (m := 12) (Nat.le_refl _) hwa.2.1).1
  have hsg : σ a 2 * σ b 2 = -1 ∨ σ a 2 * σ b 2 = 0 ∨ σ a 2 * σ b 2 = 1 := by
    rcases hwa.2.2.2.2.2.1 with e | e | e <;> rcases hwb.2.2.2.2.2.1 with e2 | e2 | e2 <;> rw [e, e2] <;> decide
  have hsg0 : wm σ a / wm σ b ≠ 0 → σ a 2 * σ b 2 ≠ 0 := by
    intro w w2
    rcases Int.mul_eq_zero.mp w2 with w3 | w3
    · rw [hwa.zero.mpr (hwa.2.2.2.2.2.2.mp w3)] at w; exact w (Int.zero_ediv _)
    · exact hbn (hwb.2.2.2.2.2.2.mp w3)
  refine bk_X1_divide hd ha hb hq ⟨hwb.s32, fun h2 => ?_, fun h2 => ?_⟩
  · -- two parts or more
    obtain ⟨len, hlen⟩ : ∃ k : Nat, (k : Int) = σ b 1 := ⟨(σ b 1).toNat, by omega⟩
    obtain ⟨sa, hsa⟩ : ∃ k : Nat, (k : Int) = σ a 1 := ⟨(σ a 1).toNat, by omega⟩
    obtain ⟨t, ht⟩ : ∃ t : Int, t = σ (b + 1) (σ b 1 - 1) := ⟨_, rfl⟩
    have rt := hwb.2.2.1 (σ b 1 - 1) (by omega) (by omega)
    have tn := hwb.2.2.2.2.1 (by omega)
    rw [← ht] at rt tn
    obtain ⟨s, hs⟩ : ∃ s : Int, s = 1000000000 / (t + 1) := ⟨_, rfl⟩
    obtain ⟨s1, s2, s3, s4⟩ := sc_lead (by omega) rt.2 hs
    have hsd : Int.tdiv 1000000000 (t + 1) = s := by rw [Int.tdiv_eq_ediv_of_nonneg (by decide), hs]
    -- the leading part of b
    obtain ⟨m, hm⟩ : ∃ m : Nat, len = m + 1 := ⟨len - 1, by omega⟩
    have hbe : wm σ b = dv (σ (b + 1)) m + t * pw m := by
      unfold wm
      rw [hwb.dvz (m := len) (by omega) (by omega), hm, dv_s, ht, show σ b 1 - 1 = (m : Int) by omega]
    have rbm := dv_rng (hwb.2.2.1.mono (show m ≤ 12 by omega))
    have hpm := pw_pos m
    obtain ⟨V, hV⟩ : ∃ V : Int, V = wm σ b * s := ⟨_, rfl⟩
    have hVlt : V < pw len := by
      have e1 : wm σ b + 1 ≤ (t + 1) * pw m := by rw [hbe, Int.add_mul, Int.one_mul]; omega
      have e2 : (wm σ b + 1) * s ≤ (t + 1) * pw m * s := Int.mul_le_mul_of_nonneg_right e1 (by omega)
      have e3 : (t + 1) * pw m * s = (t + 1) * s * pw m := by rw [Int.mul_right_comm]
      have e4 : (t + 1) * s * pw m ≤ 1000000000 * pw m := Int.mul_le_mul_of_nonneg_right s3 (by omega)
      rw [hm, pw_s, hV]
      have e5 : (wm σ b + 1) * s = wm σ b * s + s := by rw [Int.add_mul, Int.one_mul]
      omega
    have hVlow : t * s * pw m ≤ V := by
      rw [hV, hbe, Int.add_mul, Int.mul_right_comm t (pw m) s]
      have : 0 ≤ dv (σ (b + 1)) m * s := Int.mul_nonneg rbm.1 (by omega)
      omega
    obtain ⟨M, hM⟩ : ∃ M : Nat, (M : Int) = max (σ a 1) (σ b 1) := ⟨(max (σ a 1) (σ b 1)).toNat, by omega⟩
    have hM12 : M ≤ 12 := by omega
    refine ⟨hf, by omega, by omega, by rw [← ht]; constructor <;> omega, by rw [← ht]; constructor <;> omega, by rw [← ht]; omega, hwa.s32, ?_⟩
    rw [← ht, hsd]
    obtain ⟨σ0, hσ0⟩ : ∃ τ : ZM, τ = z_up (z_up σ d 2 (σ b 1)) d 3 s := ⟨_, rfl⟩
    rw [← hσ0]
    have o0 : OnD d q σ σ0 := by rw [hσ0]; exact (OnD.rfl'.up 2 (Or.inl rfl)).up 3 (Or.inr rfl)
    have e03 : σ0 d 3 = s := by rw [hσ0]; exact z_up_same _ _ _ _
    have e02 : σ0 d 2 = len := by rw [hσ0, z_up_ne _ (Or.inr (by decide)), z_up_same, hlen]
    have e0x : ∀ c, c ≠ d → σ0 c = σ c := fun c hc => by rw [hσ0, z_up_far _ _ _ hc, z_up_far _ _ _ hc]
    have f0 : Fix σ0 := o0.fix hd hq hf
    have wa0 : WF σ0 a := by unfold WF; rw [e0x a (Ne.symm na1), e0x (a + 1) (Ne.symm na2)]; exact hwa
    have wb0 : WF σ0 b := by unfold WF; rw [e0x b (Ne.symm nb1), e0x (b + 1) (Ne.symm nb2)]; exact hwb
    have ma0 : wm σ0 a = wm σ a := by unfold wm; rw [e0x (a + 1) (Ne.symm na2)]
    have mb0 : wm σ0 b = wm σ b := by unfold wm; rw [e0x (b + 1) (Ne.symm nb2)]
    rw [show max (σ a 1) (σ b 1) + 1 = ((M + 1 : Nat) : Int) by omega]
    have haM := hwa.lt hM12 (by omega)
    refine c_copyScaled hd ha (zo_1_0 hd) na5 f0 wa0 (by rw [e03]; exact s1) (by rw [e03]; omega) (by omega) (by rw [e0x a (Ne.symm na1)]; omega) ?_ (fun σ10 o10 dg10 dv10 => ⟨(OnD.ofR (q := q) o10 (Or.inl rfl)).fix hd hq f0, ?_⟩)
    · rw [ma0, e03, pw_s]
      have e1 : wm σ a * s ≤ wm σ a * 500000000 := Int.mul_le_mul_of_nonneg_left s2 haM.1
      omega
    rw [ma0, e03] at dv10
    have e10 : σ10 d 2 = len := by rw [o10 d 2 (by omega)]; exact e02
    have e10s : σ10 d 3 = s := by rw [o10 d 3 (by omega)]; exact e03
    have wb10 : WF σ10 b := by
      unfold WF
      rw [o10.row (c := b) (Ne.symm nb3), o10.row (c := b + 1) (Ne.symm nb5)]; exact wb0
    have mb10 : wm σ10 b = wm σ b := by unfold wm; rw [o10.row (c := b + 1) (Ne.symm nb5)]; exact mb0
    rw [e10, show ((len : Nat) : Int) + 1 = ((len + 1 : Nat) : Int) by omega]
    have f10 : Fix σ10 := (OnD.ofR (q := q) o10 (Or.inl rfl)).fix hd hq f0
    refine c_copyScaled hd hb (zo_1_1 hd) nb6 f10 wb10 (by rw [e10s]; exact s1) (by rw [e10s]; omega) (by omega) (by rw [o10 b 1 (Ne.symm nb3), e0x b (Ne.symm nb1)]; omega) ?_ (fun σ13 o13 dg13 dv13 => ?_)
    · rw [mb10, e10s, ← hV, pw_s]
      have := pw_pos len
      omega
    rw [mb10, e10s, ← hV] at dv13
    have o03 : OnD d q σ σ13 := (o0.trans (OnD.ofR o10 (Or.inl rfl))).trans (OnD.ofR o13 (Or.inr rfl))
    have f13 : Fix σ13 := o03.fix hd hq hf
    have q13 : ∀ i, σ13 q i = σ q i := fun i => by rw [o13 q i (Ne.symm n4), o10 q i (Ne.symm n3), e0x q (Ne.symm n1)]
    have q13r : σ13 (q + 1) = σ (q + 1) := by rw [o13.row (Ne.symm n6), o10.row (Ne.symm n5), e0x (q + 1) (Ne.symm n2)]
    refine c_clear hq hnn (f13.get hq 0 1 (by decide +kernel)) (by rw [q13]; exact hwq.1) (by rw [q13]; exact hwq.2.1) (by rw [q13, q13r]; exact hwq.2.2.2.1) (fun σ15 o15 c1 c2 c3 => ?_)
    -- what the loop keeps
    have rest15 : σ15 (d + 1) = σ10 (d + 1) := by
      funext i
      rw [o15 (d + 1) i (fun w => n3 w.1) n5, o13.row (c := d + 1) (by omega)]
    have by15 : σ15 (d + 2) = σ13 (d + 2) := by
      funext i
      exact o15 (d + 2) i (fun w => n4 w.1) n6
    have d15 : ∀ i, σ15 d i = σ0 d i := fun i => by rw [o15 d i (fun w => n1 w.1) n2, o13 d i (by omega), o10 d i (by omega)]
    have byl := dv_low (f := σ13 (d + 2)) (m := len) (n := 1) dg13 (by rw [show len + 1 = len + 1 from rfl, dv13]; exact hVlt)
    have by0 : σ13 (d + 2) len = 0 := byl.2 len (Int.le_refl _) (by omega)
    have lead : 250000010 ≤ σ13 (d + 2) ((len : Int) - 1) := by
      have hx := byl.1
      rw [dv13, hm, dv_s] at hx
      have rl := dv_rng (dg13.mono (show m ≤ len + 1 by omega))
      rw [show ((len : Nat) : Int) - 1 = (m : Int) by omega]
      apply Classical.byContradiction
      intro w
      have w1 : σ13 (d + 2) m * pw m ≤ 250000009 * pw m := Int.mul_le_mul_of_nonneg_right (by omega) (by omega)
      have w2 : 250000020 * pw m ≤ t * s * pw m := Int.mul_le_mul_of_nonneg_right s4 (by omega)
      omega
    have key : ∀ (k : Nat) (τ : ZM), (k : Int) ≤ max 0 (σ a 1 - σ b 1 + 1) → OnD d q σ τ → τ (d + 2) = σ13 (d + 2) → (∀ i, τ d i = σ0 d i) → τ q 0 = q + 1 → dg (τ (d + 1)) (M + 1) → dg (τ (q + 1)) 12 → (∀ j : Int, 0 ≤ j → j < k → τ (q + 1) j = 0) → (∀ j : Int, 0 ≤ j → σ a 1 - σ b 1 + 1 ≤ j → j < 12 → τ (q + 1) j = 0) → dv (τ (q + 1)) 12 * V + dv (τ (d + 1)) (M + 1) = wm σ a * s → dv (τ (d + 1)) (M + 1) < V * pw k →
        (k = 0 ∨ (k : Int) ≤ σ a 1 - σ b 1 + 1) → ∀ x : Int, (x = (k : Int) - 1 ∨ (k = 0 ∧ x < 0)) → r32 x → Z X (rX1_divide zN) mX1_divide 129 [(2, d), (9, 0), (9, 0), (2, q), (0, (σ a 1 - σ b 1)), (0, (σ a 2 * σ b 2)), (0, x), (9, 0), (9, 0)] [] zN τ (zQv T) := by
      intro k
      induction k with
      | zero =>
        intro τ hk ho hby hdd hpq hdr hdq hz1 hz2 heq hlt _ x hx hxr
        have hx0 : x < 0 := by omega
        refine bk_X1_divide_129 hd hq ⟨hxr, fun _ => ?_, fun w => absurd hx0 w⟩
        rw [pw_0, Int.mul_one, hV] at hlt
        rw [hV] at heq
        have rR := dv_rng hdr
        obtain ⟨r1, r2⟩ := dq_end s1 hbm heq rR.1 hlt
        refine c_trim hq hnn hpq hdq (by constructor <;> omega) (fun j g1 g2 g3 => hz2 j g1 g2 g3) hsg (fun w => ?_) (fun σ' o' hwf hrow hv => h σ' (ho.trans (OnD.ofW o')) hwf ?_ ?_)
        · unfold wm at w
          rw [← r1] at w
          exact hsg0 w
        · rw [hv]
          unfold wm
          rw [← r1]
          rfl
        · refine ⟨len, ?_, by omega, by omega, ?_, ?_, ?_, ?_⟩
          · rw [o' d 2 (fun w => n1 w.1) n2, hdd]; exact e02
          · rw [o' d 3 (fun w => n1 w.1) n2, hdd, e03]; exact s1
          · rw [o' d 3 (fun w => n1 w.1) n2, hdd, e03]; omega
          · rw [show σ' (d + 1) = τ (d + 1) from by funext i; exact o' _ _ (fun w => n3 w.1) n5]
            exact hdr.mono (by omega)
          · rw [show σ' (d + 1) = τ (d + 1) from by funext i; exact o' _ _ (fun w => n3 w.1) n5, o' d 3 (fun w => n1 w.1) n2, hdd, e03, ← r2]
            have := dv_low (f := τ (d + 1)) (m := len) (n := M + 1 - len) (by rw [show len + (M + 1 - len) = M + 1 by omega]; exact hdr) (by rw [show len + (M + 1 - len) = M + 1 by omega, ← hV] at *; omega)
            rw [show len + (M + 1 - len) = M + 1 by omega] at this
            exact this.1.symm
      | succ k ih =>
        intro τ hk ho hby hdd hpq hdr hdq hz1 hz2 heq hlt hkk x hx hxr
        have hxk : x = k := by omega
        subst hxk
        have hkl : (k : Int) + len ≤ sa := by omega
        have hf2 := ho.fix hd hq hf
        have eL : τ d 2 = len := by rw [hdd]; exact e02
        -- the window
        have hR1 : dv (τ (d + 1)) (M + 1) < pw (k + (len + 1)) := by
          have e1 : V * pw (k + 1) < pw len * pw (k + 1) := Int.mul_lt_mul_of_pos_right hVlt (pw_pos _)
          rw [show k + (len + 1) = len + (k + 1) by omega, pw_add]
          omega
        have hlow := dv_low (f := τ (d + 1)) (m := k + (len + 1)) (n := M - (k + len)) (by rw [show k + (len + 1) + (M - (k + len)) = M + 1 by omega]; exact hdr) (by rw [show k + (len + 1) + (M - (k + len)) = M + 1 by omega]; exact hR1)
        rw [show k + (len + 1) + (M - (k + len)) = M + 1 by omega] at hlow
        have hsp := dv_split (τ (d + 1)) k (len + 1)
        obtain ⟨U, hU⟩ : ∃ U : Int, U = dv (sh (τ (d + 1)) k) (len + 1) := ⟨_, rfl⟩
        have hRU : dv (τ (d + 1)) (M + 1) = dv (τ (d + 1)) k + pw k * U := by rw [hlow.1, hsp, hU]
        have rk := dv_rng (hdr.mono (show k ≤ M + 1 by omega))
        have hpk := pw_pos k
        have hUV : U < V * 1000000000 := by
          apply Classical.byContradiction
          intro w
          have w1 : pw k * (V * 1000000000) ≤ pw k * U := Int.mul_le_mul_of_nonneg_left (by omega) (by omega)
          have w2 : V * pw (k + 1) = pw k * (V * 1000000000) := by rw [pw_s]; grind
          omega
        have hVd : dv (τ (d + 2)) (len + 1) = V := by rw [hby]; exact dv13
        have hdrw : dg (τ (d + 1)) (k + len + 1) := hdr.mono (by omega)
        have hV0 : 0 ≤ V := by rw [hV]; exact Int.mul_nonneg (by omega) (by omega)
        -- behind the step, with the part g that is taken
        have goOn : ∀ (g U' : Int) (υ : ZM), 0 ≤ g → U' = U - g * V → 0 ≤ U' → U' < V → OnR (d + 1) τ υ → dg (υ (d + 1)) (k + len + 1) → (∀ j : Int, j < k ∨ (k : Int) + len < j → υ (d + 1) j = τ (d + 1) j) → dv (sh (υ (d + 1)) k) (len + 1) = U' → Z X (rX1_divide zN) mX1_divide 129 [(2, d), (9, 0), (9, 0), (2, q), (0, (σ a 1 - σ b 1)), (0, (σ a 2 * σ b 2)), (0, ((k : Int) + -1)), (9, 0), (9, 0)] [] zN (z_up υ (q + 1) k g) (zQv T) := by
          intro g U' υ hg0 hU' h0 h1 hor hdgυ hsame hdvU
          have hgB : g < 1000000000 := by
            apply Classical.byContradiction
            intro w
            have : 1000000000 * V ≤ g * V := Int.mul_le_mul_of_nonneg_right (by omega) hV0
            omega
          have hdυ : dg (υ (d + 1)) (M + 1) := fun j g1 g2 => by
            rcases Int.lt_or_le j ((k + len + 1 : Nat) : Int) with w | w
            · exact hdgυ j g1 w
            · rw [hsame j (Or.inr (by omega))]; exact hdr j g1 g2
          have hυq : ∀ i, υ q i = τ q i := fun i => hor q i (Ne.symm n3)
          have hυqr : υ (q + 1) = τ (q + 1) := hor.row (Ne.symm n5)
          have hRυ : dv (υ (d + 1)) (M + 1) = dv (τ (d + 1)) k + pw k * U' := by
            have e1 : dv (υ (d + 1)) (M + 1) = dv (υ (d + 1)) (k + (len + 1)) := dv_zero (by omega) (fun j g1 g2 => by rw [hsame j (Or.inr (by omega))]; exact hlow.2 j g1 g2)
            rw [e1, dv_split, hdvU]
            congr 1
            exact dv_congr (fun j g1 g2 => hsame j (Or.inl g2))
          have q0 : τ (q + 1) k = 0 := hz1 k (by omega) (by omega)
          refine ih _ (by omega) ?_ ?_ ?_ ?_ ?_ ?_ ?_ ?_ ?_ ?_ (by omega) _ (Or.inl (by omega)) (by constructor <;> omega)
          · exact (ho.trans (OnD.ofR hor (Or.inl rfl))).upQ
          · rw [z_up_far _ _ _ n6, hor.row (by omega)]; exact hby
          · intro i; rw [z_up_far _ _ _ n2, hor.row (by omega)]; exact hdd i
          · rw [z_up_far _ _ _ (by omega), hυq]; exact hpq
          · rw [z_up_far _ _ _ n5]; exact hdυ
          · rw [z_up_row, hυqr]; exact dg_fu hdq hg0 hgB
          · intro j g1 g2; rw [z_up_row, hυqr, fu_n _ _ (by omega)]; exact hz1 j g1 (by omega)
          · intro j g1 g2 g3; rw [z_up_row, hυqr, fu_n _ _ (by omega)]; exact hz2 j g1 g2 g3
          · rw [z_up_row, hυqr, z_up_far _ _ _ n5, hRυ, dv_fu (by omega), q0, Int.sub_zero, ← heq, hRU, hU']
            grind
          · rw [z_up_far _ _ _ n5, hRυ]
            have w1 : pw k * (U' + 1) ≤ pw k * V := Int.mul_le_mul_of_nonneg_left (by omega) (by omega)
            rw [Int.mul_add, Int.mul_one] at w1
            rw [Int.mul_comm V]
            omega
        refine bk_X1_divide_129 hd hq ⟨hxr, fun w => absurd w (by omega), fun _ => ?_⟩
        refine c_guessPart hd hf2 eL (by omega) (by omega) hdrw (by rw [hby]; exact dg13) (by rw [hby]; exact by0) (by rw [hby]; exact lead) (by rw [hVd, ← hU]; exact hUV) (fun g hg0 hg1 hg2 hg3 => ?_)
        rw [hVd, ← hU] at hg1 hg2
        have eg : (g + 1) * V = g * V + V := by rw [Int.add_mul, Int.one_mul]
        have eg2 : (g - 1) * V = g * V - V := by rw [Int.sub_mul, Int.one_mul]
        have hpl : pw (len + 1) = pw len * 1000000000 := pw_s len
        have hpl0 := pw_pos len
        refine c_takeAway hd hf2 eL (by omega) hdrw (by rw [hby]; exact dg13) hg0 hg3 (by rw [hVd, ← hU]; omega) (fun bb υ hor hdgυ hsame hbb hdvU => ?_)
        rw [hVd, ← hU] at hbb hdvU
        refine ⟨fun hb1 => ?_, fun hb1 => ?_⟩
        · subst hb1
          have hge : 0 ≤ U - g * V := by
            apply Classical.byContradiction
            intro w
            exact absurd (hbb.mpr (by omega)) (by decide)
          refine ⟨(hor.fix (zo_1_0 hd) hf2), by omega, by omega, ?_⟩
          exact goOn g (U - g * V) υ hg0 rfl hge (by omega) hor hdgυ hsame (by rw [hdvU]; simp)
        · subst hb1
          have hlt0 : U - g * V < 0 := hbb.mp rfl
          have fυ : Fix υ := hor.fix (zo_1_0 hd) hf2
          have hg1' : 1 ≤ g := by
            apply Classical.byContradiction
            intro w
            have : g = 0 := by omega
            subst this
            have rU := dv_rng (f := sh (τ (d + 1)) k) (n := len + 1) (fun j g1 g2 => hdr _ (by omega) (by omega))
            rw [← hU] at rU
            omega
          refine c_giveBack hd fυ (by rw [hor d 2 (by omega)]; exact eL) (by omega) hdgυ (by rw [hor.row (c := d + 2) (by omega), hby]; exact dg13) (fun c υ2 hc0 hor2 hdg2 hsame2 hdv2 => ?_)
          rw [hor.row (c := d + 2) (by omega), hVd, hdvU] at hdv2
          simp only [if_true] at hdv2
          have rw2 := dv_rng (f := sh (υ2 (d + 1)) k) (n := len + 1) (fun j g1 g2 => hdg2 _ (by omega) (by omega))
          have hc1 : c = 1 := by
            apply Classical.byContradiction
            intro w
            rcases Int.lt_or_le c 1 with w1 | w1
            · have : c = 0 := by omega
              subst this
              rw [Int.zero_mul] at hdv2
              omega
            · have : 2 * pw (len + 1) ≤ c * pw (len + 1) := Int.mul_le_mul_of_nonneg_right (by omega) (Int.le_of_lt (pw_pos _))
              omega
          subst hc1
          rw [Int.one_mul] at hdv2
          refine ⟨hor2.fix (zo_1_0 hd) fυ, by omega, by omega, ?_⟩
          exact goOn (g - 1) (U - g * V + V) υ2 (by omega) (by omega) (by omega) (by omega) (fun c i hc => (hor2 c i hc).trans (hor c i hc)) hdg2 (fun j hj => (hsame2 j hj).trans (hsame j hj)) (by omega)
    have o15' : OnD d q σ σ15 := o03.trans (OnD.ofW o15)
    have hq15 : dv (σ15 (q + 1)) 12 = 0 := dv_zero (m := 0) (by decide) (fun j g1 g2 => c3 j g1 g2)
    have hpq15 : σ15 q 0 = q + 1 := (o15'.fix hd hq hf).get hq 0 1 (by decide +kernel)
    have geb := hwb.ge (m := m) (by omega)
    have hlt15 : ∀ k : Nat, (k : Int) = max 0 (σ a 1 - σ b 1 + 1) → wm σ a * s < V * pw k := by
      intro k hk
      rw [hV]
      have e1 : wm σ b * s * pw k = wm σ b * pw k * s := Int.mul_right_comm _ _ _
      rw [e1]
      apply Int.mul_lt_mul_of_pos_right _ (by omega)
      have e2 : pw m * pw k ≤ wm σ b * pw k := Int.mul_le_mul_of_nonneg_right geb (Int.le_of_lt (pw_pos k))
      rw [← pw_add] at e2
      have e3 := (hwa.lt (m := sa) (by omega) (by omega)).2
      have e4 := pw_mono (show sa ≤ m + k by omega)
      omega
    obtain ⟨k0, hk0⟩ : ∃ k : Nat, (k : Int) = max 0 (σ a 1 - σ b 1 + 1) := ⟨(max 0 (σ a 1 - σ b 1 + 1)).toNat, by omega⟩
    refine key k0 σ15 (by omega) o15' by15 d15 hpq15 (by rw [rest15]; exact dg10) (fun j g1 g2 => by rw [c3 j g1 g2]; decide) (fun j g1 g2 => c3 j g1 (by omega)) (fun j g1 _ g2 => c3 j g1 g2) ?_ ?_ (by omega) _ (by omega) (by constructor <;> omega)
    · rw [hq15, Int.zero_mul, Int.zero_add, rest15, dv10]
    · rw [rest15, dv10]; exact hlt15 k0 hk0
  · -- one part
    have hb1 : σ b 1 = 1 := by omega
    have hbe : wm σ b = σ (b + 1) 0 := by
      unfold wm
      rw [hwb.dvz (m := 1) (by decide) (by omega)]
      show 0 + σ (b + 1) 0 * 1 = _
      omega
    have rb := hwb.2.2.1 0 (by decide) (by decide)
    refine ⟨hf, hwb.dr (by decide) (by decide), ?_⟩
    rw [← hbe]
    have o0 : OnD d q σ (z_up σ d 2 (σ b 1)) := OnD.rfl'.up 2 (Or.inl rfl)
    have e0x : ∀ c, c ≠ d → z_up σ d 2 (σ b 1) c = σ c := fun c hc => z_up_far _ _ _ hc
    have wa0 : WF (z_up σ d 2 (σ b 1)) a := by unfold WF; rw [e0x a (Ne.symm na1), e0x (a + 1) (Ne.symm na2)]; exact hwa
    have wq0 : WF (z_up σ d 2 (σ b 1)) q := by unfold WF; rw [e0x q (Ne.symm n1), e0x (q + 1) (Ne.symm n2)]; exact hwq
    have ma0 : wm (z_up σ d 2 (σ b 1)) a = wm σ a := by unfold wm; rw [e0x (a + 1) (Ne.symm na2)]
    refine c_divideByPart hd ha hq (o0.fix hd hq hf) wa0 wq0 hbm (by rw [hbe]; exact rb.2) (fun σ1 o1 k2 k3 k4 k5 k6 k7 k8 => ?_)
    rw [ma0] at k4 k8
    rw [e0x a (Ne.symm na1)] at k7
    have oo := o0.trans o1
    have ea : σ1 a 1 = σ a 1 := by
      by_cases haq : a = q
      · subst haq; rw [k5, e0x a (Ne.symm na1)]
      · rw [(oo.oth hd hq ha haq).1]
    rw [ea]
    refine c_trim hq hnn ((oo.fix hd hq hf).get hq 0 1 (by decide +kernel)) k6 hwa.s32 (fun j g1 g2 g3 => k7 j g2 g3) hsg (fun w => ?_) (fun σ' o' hwf hrow hv => h σ' (oo.trans (OnD.ofW o')) hwf ?_ ?_)
    · unfold wm at w
      rw [k8] at w
      exact hsg0 w
    · rw [hv]
      unfold wm
      rw [k8]
      rfl
    · refine ⟨1, ?_, by decide, by decide, ?_, ?_, ?_, ?_⟩
      · rw [o' d 2 (fun w => n1 w.1) n2, k2, z_up_same, hb1]; rfl
      · rw [o' d 3 (fun w => n1 w.1) n2, k3]; decide
      · rw [o' d 3 (fun w => n1 w.1) n2, k3]; decide
      · intro i g1 g2
        have : i = 0 := by omega
        subst this
        rw [o' (d + 1) 0 (fun w => n3 w.1) n5, k4]
        have m0 := Int.emod_nonneg (wm σ a) (show wm σ b ≠ 0 by omega)
        have m1 := Int.emod_lt_of_pos (wm σ a) hbm
        omega
      · show 0 + σ' (d + 1) 0 * 1 = _
        rw [o' (d + 1) 0 (fun w => n3 w.1) n5, k4, o' d 3 (fun w => n1 w.1) n2, k3]
        omega
