def sgnI (x : Int) : Int := if x = 0 then 0 else if x < 0 then -1 else 1
theorem bit_int (s i : Nat) : ((s : Int) / 2 ^ i) % 2 ^ 1 = if s.testBit i then 1 else 0 := by
  have e : ((s : Int) / 2 ^ i) % 2 ^ 1 = ((s / 2 ^ i % 2 : Nat) : Int) := by
    rw [Int.natCast_emod, Int.natCast_ediv, Int.natCast_pow]; rfl
  rw [e, Nat.testBit_eq_decide_div_mod_eq]
  have : s / 2 ^ i % 2 < 2 := Nat.mod_lt _ (by decide)
  by_cases q : s / 2 ^ i % 2 = 1
  · rw [q]; rfl
  · rw [decide_eq_false q, show s / 2 ^ i % 2 = 0 by omega]; rfl
theorem En.uniq {n : Nat} {T : Nat → Bool} {h h' : Nat} {d d' : Nat → Nat} (e : En n T h d) (e' : En n T h' d') : h = h' ∧ ∀ a, a < h → d a = d' a := by
  have hh : h = h' := by rw [← e.all, ← e'.all]
  subst hh
  refine ⟨rfl, fun a ha => ?_⟩
  have c1 := e.at ha
  have c2 := e'.at ha
  have t1 := (e.2 (d a) (e.1.1 a ha)).mpr ⟨a, ha, rfl⟩
  have t2 := (e'.2 (d' a) (e'.1.1 a ha)).mpr ⟨a, ha, rfl⟩
  rcases Nat.lt_trichotomy (d a) (d' a) with w | w | w
  · have := cn_lt w t1; omega
  · exact w
  · have := cn_lt w t2; omega
theorem m_minor {X : ZS} {σ α : ZM} {T : Int → ZM → Prop} {v : Int → Int} {l : Int} {n s : Nat} (hN : NM σ v) (mg : MG σ α) (mw : MW σ α) (ok : Ok α) (l0 : 0 ≤ l) (l1 : l < α 0 1) (hn : α 0 0 = ((n + 1 : Nat) : Int)) (hs : s < 2 ^ n)
    (h : ∀ σ' w' d, Mw σ σ' → NM σ' w' → Kp v w' → En n s.testBit (cn s.testBit n) d → T (sgnI (da (cn s.testBit n) (sub (sqM (Gx α l 0) n) d))) σ') : ZC X (rX12_minor zN) mX12_minor [(2, 211), (0, l), (0, (s : Int))] zN σ (zQi T) := by
  have s8 := ok.s
  have n7 : n ≤ 7 := by omega
  have s128 : s < 128 := Nat.lt_of_lt_of_le hs (Nat.pow_le_pow_right (by decide) n7)
  have rs : r32 (s : Int) := by constructor <;> omega
  have G0 : ∀ a b : Nat, a ≤ n → b ≤ n → Gx α l 0 a b = α 5 (81 * l + wy α a b) := fun a b _ _ => by unfold Gx; rw [if_neg (fun w => w.1 rfl), Int.sub_zero]
  have Gr : ∀ a b : Nat, a ≤ n → b ≤ n → 0 ≤ α 5 (81 * l + wy α a b) ∧ α 5 (81 * l + wy α a b) ≤ 16000 := fun a b ha hb => by
    have w := wy_r ok (i := a) (j := b) (by omega) (by omega) (by omega) (by omega)
    exact (ok.w l _ l0 l1 w.1 w.2).1
  have e4 : ∀ {τ : ZM}, Mw σ τ → τ 211 4 = ((n + 1 : Nat) : Int) := fun {τ} o => by rw [o.2.2 4 (by decide), mg.1, hn]
  obtain ⟨B, hB⟩ : ∃ B : Nat → Bool, B = s.testBit := ⟨_, rfl⟩
  rw [← hB] at h
  have bit : ∀ i : Nat, ((s : Int) / 2 ^ ((i : Int)).toNat) % 2 ^ 1 = if B i then 1 else 0 := fun i => by rw [hB, show ((i : Int)).toNat = i from rfl]; exact bit_int s i
  have outer : ∀ (r i : Nat) (τ : ZM) (w : Int → Int), i + r = n → Mw σ τ → NM τ w → Kp v w → τ 211 17 = (cn B i : Nat) → (∀ a b : Nat, a < i → b < n → B a = true → B b = true → w (20 + 10 * (cn B a : Nat) + (cn B b : Nat)) = sqM (Gx α l 0) n a b) → Z X (rX12_minor zN) mX12_minor 15 [(2, 211), (0, l), (0, (s : Int)), (0, (n : Int)), (0, (i : Int)), (9, 0), (9, 0)] [] zN τ (zQi T) := by
    intro r
    induction r with
    | zero =>
      intro i τ w hi o nm kp e17 vv
      have : i = n := by omega
      subst this
      obtain ⟨d, ed⟩ := en_of B i
      have kb := cn_le B i
      refine bk_X12_minor_15 ⟨by constructor <;> omega, by constructor <;> omega, fun _ => ?_, fun q => absurd (Int.le_refl _) q⟩
      rw [e17]
      have f18 : Fix (z_up τ 211 18 (cn B i : Nat)) := nm.1.upF la_211 18 (by decide +kernel)
      have A : ∀ a b : Nat, a < cn B i → b < cn B i → w (20 + 10 * (a : Int) + (b : Int)) = sub (sqM (Gx α l 0) i) d a b := fun a b ha hb => by
        have ta := (ed.2 (d a) (ed.1.1 a ha)).mpr ⟨a, ha, rfl⟩
        have tb := (ed.2 (d b) (ed.1.1 b hb)).mpr ⟨b, hb, rfl⟩
        have := vv (d a) (d b) (ed.1.1 a ha) (ed.1.1 b hb) ta tb
        rw [ed.at ha, ed.at hb] at this
        exact this
      refine m_clear (v := w) (n := cn B i) (wd := cn B i) (V := fun j r => sub (sqM (Gx α l 0) i) d r j) (by omega) (Nat.le_refl _) (by omega) (by rw [z_up_ne _ (Or.inr (by decide)), e17]) (by rw [z_up_same]) (nm.up f18 (by decide)) (fun a b ha hb => A a b ha hb) (fun b a hb ha => ?_) (fun σ' v' rk ok' n' k' er rlt nk => ?_) (fun σ' v' fl ok' n' k' er _ kf ef f9 d0 dd _ _ _ => ?_)
      · show -100000 ≤ sqM (Gx α l 0) i (d a) (d b) ∧ sqM (Gx α l 0) i (d a) (d b) ≤ 100000
        have xa := ed.1.1 a ha
        have xb := ed.1.1 b hb
        unfold sqM
        rw [G0 _ _ (by omega) (by omega), G0 _ _ (by omega) (by omega), G0 _ _ (by omega) (by omega)]
        have g1 := Gr (d a) i (by omega) (by omega)
        have g2 := Gr (d b) i (by omega) (by omega)
        have g3 := Gr (d a) (d b) (by omega) (by omega)
        omega
      · have e17' : σ' 211 17 = (cn B i : Nat) := by rw [ok' 211 17 (by decide) (by decide) (by decide) (by decide) (by decide) (by decide), z_up_ne _ (Or.inr (by decide)), e17]
        rw [er, e17']
        refine ⟨by constructor <;> omega, by constructor <;> omega, fun q => absurd q (by omega), fun _ => ?_⟩
        have z := not_kf_dt nk
        have o' : Mw σ σ' := (o.up (Or.inr ⟨rfl, by decide⟩)).trans (Mw.ofK ok')
        have kp' : Kp v v' := kp.trans ⟨fun k a b => k' k (by omega) (by omega) (by omega) (by omega) (by omega) (by omega), k' 0 (by decide) (by decide) (by decide) (by decide) (by decide) (by decide), k' 1 (by decide) (by decide) (by decide) (by decide) (by decide) (by decide)⟩
        have := h σ' v' d o' n' kp' ed
        rw [show da (cn B i) (sub (sqM (Gx α l 0) i) d) = 0 from z] at this
        exact this
      · have e17' : σ' 211 17 = (cn B i : Nat) := by rw [ok' 211 17 (by decide) (by decide) (by decide) (by decide) (by decide) (by decide), z_up_ne _ (Or.inr (by decide)), e17]
        rw [er, e17', ef]
        have o' : Mw σ σ' := (o.up (Or.inr ⟨rfl, by decide⟩)).trans (Mw.ofK ok')
        have kp' : Kp v v' := kp.trans ⟨fun k a b => k' k (by omega) (by omega) (by omega) (by omega) (by omega) (by omega), k' 0 (by decide) (by decide) (by decide) (by decide) (by decide) (by decide), k' 1 (by decide) (by decide) (by decide) (by decide) (by decide) (by decide)⟩
        have H := h σ' v' d o' n' kp' ed
        have dd : v' 8 = sg fl * da (cn B i) (sub (sqM (Gx α l 0) i) d) := dd
        have em : Int.tmod (fl : Int) 2 = (fl : Int) % 2 := Int.tmod_eq_emod_of_nonneg (by omega)
        rw [em]
        refine ⟨by constructor <;> omega, by constructor <;> omega, fun _ => ⟨by constructor <;> omega, by constructor <;> omega, fun q => ?_, fun q => ?_⟩, fun q => absurd (Int.le_refl _) q⟩
        · have sgf : sg fl = -1 := by unfold sg; rw [if_neg (by omega)]
          rw [sgf] at dd
          refine c_sign (by decide) (by decide) n'.1 (n'.2 8 (by decide) (by decide)).1 ?_
          rw [(n'.2 8 (by decide) (by decide)).2]
          have : -(if v' 8 = 0 then (0 : Int) else if v' 8 < 0 then -1 else 1) = sgnI (da (cn B i) (sub (sqM (Gx α l 0) i) d)) := by
            unfold sgnI
            rw [if_neg d0]
            by_cases z2 : v' 8 < 0
            · rw [if_pos z2]
              split
              · omega
              · split <;> omega
            · rw [if_neg z2]
              split
              · omega
              · split <;> omega
          rw [this]; exact H
        · have sgf : sg fl = 1 := by unfold sg; rw [if_pos (by omega)]
          rw [sgf, Int.one_mul] at dd
          refine c_sign (by decide) (by decide) n'.1 (n'.2 8 (by decide) (by decide)).1 ?_
          rw [(n'.2 8 (by decide) (by decide)).2, dd]
          exact H
    | succ r ih =>
      intro i τ w hi o nm kp e17 vv
      have bt := bit i
      have ki := cn_le B i
      refine bk_X12_minor_15 ⟨by constructor <;> omega, by constructor <;> omega, fun q => absurd q (by omega), fun _ => ⟨by omega, by omega, rs, ?_⟩⟩
      rw [bt]
      by_cases bi : B i = true
      · rw [if_pos bi]
        refine ⟨by decide, fun _ => ?_, fun q => absurd q (by decide)⟩
        have inner : ∀ (e j : Nat) (τ : ZM) (w : Int → Int), j + e = n → Mw σ τ → NM τ w → Kp v w → τ 211 17 = (cn B i : Nat) → (∀ a b : Nat, a < i → b < n → B a = true → B b = true → w (20 + 10 * (cn B a : Nat) + (cn B b : Nat)) = sqM (Gx α l 0) n a b) → (∀ b : Nat, b < j → B b = true → w (20 + 10 * (cn B i : Nat) + (cn B b : Nat)) = sqM (Gx α l 0) n i b) → Z X (rX12_minor zN) mX12_minor 39 [(2, 211), (0, l), (0, (s : Int)), (0, (n : Int)), (0, (i : Int)), (0, ((cn B j : Nat) : Int)), (0, (j : Int))] [] zN τ (zQi T) := by
          intro e
          induction e with
          | zero =>
            intro j τ w hj o nm kp e17 vv vi
            have : j = n := by omega
            subst this
            refine bk_X12_minor_39 ⟨by constructor <;> omega, by constructor <;> omega, fun _ => ?_, fun q => absurd (Int.le_refl _) q⟩
            have ec : cn B (i + 1) = cn B i + 1 := by show cn B i + _ = _; rw [if_pos bi]
            refine ih (i + 1) _ w (by omega) (o.up (Or.inr ⟨rfl, by decide⟩)) (nm.up (nm.1.upF la_211 17 (by decide +kernel)) (by decide)) kp (by rw [z_up_same, e17, ec]; rfl) (fun a b ha hb ta tb => ?_)
            by_cases q : a = i
            · subst q; exact vi b hb tb
            · exact vv a b (by omega) hb ta tb
          | succ e ih2 =>
            intro j τ w hj o nm kp e17 vv vi
            have kj := cn_le B j
            refine bk_X12_minor_39 ⟨by constructor <;> omega, by constructor <;> omega, fun q => absurd q (by omega), fun _ => ⟨by omega, by omega, rs, ?_⟩⟩
            rw [bit j]
            by_cases bj : B j = true
            · rw [if_pos bj]
              refine ⟨by decide, fun q => absurd rfl q, fun _ => ?_⟩
              have ec : cn B (j + 1) = cn B j + 1 := by show cn B j + _ = _; rw [if_pos bj]
              rw [e17]
              refine bk_X12_cell (m_between nm.1 (mg.mw o) (mw.mw o) ok l0 l1 (by omega) (by omega) (by omega) (by omega) (m_between nm.1 (mg.mw o) (mw.mw o) ok l0 l1 (by omega) (by omega) (by omega) (by omega) (m_between nm.1 (mg.mw o) (mw.mw o) ok l0 l1 (by omega) (by omega) (by omega) (by omega) ?_)))
              have g1 := Gr i n (by omega) (by omega)
              have g2 := Gr j n (by omega) (by omega)
              have g3 := Gr i j (by omega) (by omega)
              have ev : α 5 (81 * l + wy α i n) + α 5 (81 * l + wy α j n) - α 5 (81 * l + wy α i j) = sqM (Gx α l 0) n i j := by
                unfold sqM
                rw [G0 _ _ (by omega) (by omega), G0 _ _ (by omega) (by omega), G0 _ _ (by omega) (by omega)]
              refine ⟨by constructor <;> omega, c_set (by omega) (by omega) nm (by omega) (by omega) (fun σ17 o17 n17 => ?_)⟩
              rw [ev] at n17
              have cinj : ∀ b c : Nat, B b = true → B c = true → cn B b = cn B c → b = c := fun b c tb tc q => by
                rcases Nat.lt_trichotomy b c with w | w | w
                · have := cn_lt w tb; omega
                · exact w
                · have := cn_lt w tc; omega
              have nx := ih2 (j + 1) σ17 _ (by omega) (o.trans (Mw.ofO o17)) n17 (kp.trans (Kp.fu (by omega) (by omega))) (by rw [o17 211 (by decide) (by decide) (by decide) (by decide)]; exact e17) (fun a b ha hb ta tb => ?_) (fun b hb tb => ?_)
              · rw [ec] at nx; exact nx
              · have := cn_lt ha ta
                have kb' := cn_le B b
                rw [fu_n _ _ (by omega)]; exact vv a b ha hb ta tb
              · by_cases q : b = j
                · subst q; rw [fu_s]
                · rw [fu_n _ _ (fun w => q (cinj b j tb bj (by omega)))]; exact vi b (by omega) tb
            · have bf : B j = false := by cases hh : B j; rfl; exact absurd hh bj
              rw [bf, if_neg (by decide)]
              refine ⟨by decide, fun _ => ?_, fun q => absurd q (by decide)⟩
              have ec : cn B (j + 1) = cn B j := by show cn B j + _ = _; rw [bf]; rfl
              have nx := ih2 (j + 1) τ w (by omega) o nm kp e17 vv (fun b hb tb => vi b (by
                by_cases q : b = j
                · subst q; exact absurd tb bj
                · omega) tb)
              rw [ec] at nx; exact nx
        exact inner n 0 τ w (by omega) o nm kp e17 vv (fun b hb _ => by omega)
      · have bf : B i = false := by cases hh : B i; rfl; exact absurd hh bi
        rw [bf, if_neg (by decide)]
        refine ⟨by decide, fun q => absurd rfl q, fun _ => ?_⟩
        have ec : cn B (i + 1) = cn B i := by show cn B i + _ = _; rw [bf]; rfl
        refine ih (i + 1) τ w (by omega) o nm kp (by rw [ec]; exact e17) (fun a b ha hb ta tb => vv a b (by
          by_cases q : a = i
          · subst q; exact absurd ta bi
          · omega) hb ta tb)
  have x3 : σ 211 4 - 1 = (n : Int) := by rw [mg.1, hn]; omega
  refine bk_X12_minor ?_
  rw [x3]
  exact outer n 0 _ v (by omega) (Mw.rfl'.up (Or.inr ⟨rfl, by decide⟩)) (hN.up (hN.1.upF la_211 17 (by decide +kernel)) (by decide)) Kp.rfl' (by rw [z_up_same]; rfl) (fun a b ha _ _ _ => by omega)
