theorem z_mulb {x y m k : Int} (h1 : -m ≤ x) (h2 : x ≤ m) (h3 : 0 ≤ y) (h4 : y ≤ k) : -(m * k) ≤ x * y ∧ x * y ≤ m * k := by
  have hm : 0 ≤ m := by omega
  have a1 : x * y ≤ m * y := Int.mul_le_mul_of_nonneg_right h2 h3
  have a2 : (-m) * y ≤ x * y := Int.mul_le_mul_of_nonneg_right h1 h3
  have a3 : m * y ≤ m * k := Int.mul_le_mul_of_nonneg_left h4 hm
  rw [Int.neg_mul] at a2
  omega
theorem c_addTimes {X : ZS} {σ : ZM} {T : ZM → Prop} {a b f : Int} (ha : z_l a = (9, 3)) (hb : z_l b = (9, 3)) (hab : a ≠ b) (hf : Fix σ) (hwa : WF σ a) (hwb : WF σ b) (hfr : r32 f) (hlo : -pw 12 < wv σ a + f * wv σ b) (hhi : wv σ a + f * wv σ b < pw 12)
    (h : ∀ σ', OnW a σ σ' → WF σ' a → wv σ' a = wv σ a + f * wv σ b → T σ') : ZC X (rX9_addTimes zN) mX9_addTimes [(2, a), (2, b), (0, f)] zN σ (zQv T) := by
  have a1 := hwa.1
  have a2 := hwa.2.1
  have b1 := hwb.1
  have b2 := hwb.2.1
  have hgb := hwb.2.2.2.2.2.1
  have hga := hwa.2.2.2.2.2.1
  obtain ⟨m, hm⟩ : ∃ m : Nat, (m : Int) = max (σ a 1) (σ b 1) := ⟨(max (σ a 1) (σ b 1)).toNat, by omega⟩
  obtain ⟨len, hlen⟩ : ∃ len : Nat, (len : Int) = min 12 (max (σ a 1) (σ b 1) + 2) := ⟨(min 12 (max (σ a 1) (σ b 1) + 2)).toNat, by omega⟩
  have hl12 : len ≤ 12 := by omega
  obtain ⟨fc, hfc⟩ : ∃ fc : Int, fc = f * σ b 2 := ⟨_, rfl⟩
  have hfcb : -2147483648 ≤ fc ∧ fc ≤ 2147483648 := by
    have := hfr.1
    have := hfr.2
    rcases hgb with e | e | e <;> rw [e] at hfc <;> omega
  have dva : dv (σ (a + 1)) len = wm σ a := (hwa.dvz hl12 (by omega)).symm
  have dvb : dv (σ (b + 1)) len = wm σ b := (hwb.dvz hl12 (by omega)).symm
  obtain ⟨R, hR⟩ : ∃ R : Int, R = wv σ a + f * wv σ b := ⟨_, rfl⟩
  have hRe : σ a 2 * dv (σ (a + 1)) len + fc * dv (σ (b + 1)) len = R := by
    rw [dva, dvb, hR, hfc]
    unfold wv
    rw [Int.mul_assoc]
  have hRb : -pw len < R ∧ R < pw len := by
    by_cases h12 : len = 12
    · rw [h12, hR]; exact ⟨hlo, hhi⟩
    · have e : len = m + 2 := by omega
      have m12 : m ≤ 12 := by omega
      have ra := hwa.lt m12 (by omega)
      have rb := hwb.lt m12 (by omega)
      have p1 : pw len = pw m * 1000000000 * 1000000000 := by rw [e, pw_s, pw_s]
      have q1 := z_mulb (x := σ a 2) (y := wm σ a) (m := 1) (k := wm σ a) (by omega) (by omega) ra.1 (Int.le_refl _)
      have q2 := z_mulb (x := fc) (y := wm σ b) (m := 2147483648) (k := wm σ b) (by omega) (by omega) rb.1 (Int.le_refl _)
      rw [← hRe, dva, dvb, p1]
      omega
  have key : ∀ (k i : Nat) (c : Int) (τ : ZM), i + k = len → -2147483660 ≤ c → c ≤ 2147483660 → OnW a σ τ → (∀ j, τ a j = σ a j) → dg (τ (a + 1)) 12 → (∀ j : Int, i ≤ j → τ (a + 1) j = σ (a + 1) j) → dv (τ (a + 1)) i + c * pw i = σ a 2 * dv (σ (a + 1)) i + fc * dv (σ (b + 1)) i →
      Z X (rX9_addTimes zN) mX9_addTimes 35 [(2, a), (2, b), (9, 0), (0, (len : Int)), (1, fc), (9, 0), (1, c), (9, 0), (0, (i : Int)), (9, 0), (9, 0), (9, 0), (9, 0)] [] zN τ (zQv T) := by
    intro k
    induction k with
    | zero =>
      intro i c τ hi hc1 hc2 ho hs hd hr he
      have hil : i = len := by omega
      subst hil
      rw [hRe] at he
      have rd := dv_rng (hd.mono hl12)
      have hp := pw_pos i
      have hpt : τ a 0 = a + 1 := by rw [hs]; exact hf.get ha 0 1 (by decide +kernel)
      have hnn := z_leN (zo_9_0 ha) (by decide)
      have hz : ∀ j : Int, 0 ≤ j → (i : Int) ≤ j → j < 12 → τ (a + 1) j = 0 := fun j g1 g2 g3 => by rw [hr j g2]; exact hwa.2.2.2.1 j (by omega) g3
      have hir : r32 (i : Int) := by constructor <;> omega
      refine bk_X9_addTimes_35 ha hb ⟨hir, hir, fun _ => ⟨by constructor <;> omega, fun q => ⟨fun _ => ?_, fun q2 => absurd q q2⟩, fun q => ?_⟩, fun q => absurd (Int.le_refl _) q⟩
      · have hc0 : c = 0 := by
          apply Classical.byContradiction
          intro w
          have := Int.mul_le_mul_of_nonneg_right (show 1 ≤ c by omega) (Int.le_of_lt hp)
          omega
        subst hc0
        rw [Int.zero_mul, Int.add_zero] at he
        have hw : wm τ a = R := by
          unfold wm
          rw [dv_zero hl12 (fun j g1 g2 => hz j (by omega) g1 g2), he]
        refine c_trim ha hnn hpt hd hir hz (Or.inr (Or.inr rfl)) (fun _ => by decide) (fun σ' ho2 hwf _ hv => h σ' (ho.trans ho2) hwf ?_)
        rw [hv, hw, Int.one_mul, hR]
      · have hc0 : c = -1 := by
          apply Classical.byContradiction
          intro w
          have := Int.mul_le_mul_of_nonneg_right (show c ≤ -2 by omega) (Int.le_of_lt hp)
          omega
        subst hc0
        refine c_complement ha (ho.fix ha hf) hd hl12 (by omega) (fun σ9 ho9 hd9 hr9 he9 => ⟨fun q2 => absurd q2 q, fun _ => ?_⟩)
        have hz9 : ∀ j : Int, 0 ≤ j → (i : Int) ≤ j → j < 12 → σ9 (a + 1) j = 0 := fun j g1 g2 g3 => by rw [hr9 j g2]; exact hz j g1 g2 g3
        have hw : wm σ9 a = -R := by
          unfold wm
          rw [dv_zero hl12 (fun j g1 g2 => hz9 j (by omega) g1 g2), he9]
          omega
        refine c_trim ha hnn (by rw [ho9 a 0 (by omega) (by omega)]; exact hpt) hd9 hir hz9 (Or.inl rfl) (fun _ => by decide) (fun σ' ho2 hwf _ hv => h σ' ((ho.trans ho9).trans ho2) hwf ?_)
        rw [hv, hw, hR]
        omega
    | succ k ih =>
      intro i c τ hi hc1 hc2 ho hs hd hr he
      have dF := hwa.2.2.1 i (by omega) (by omega)
      have dG := hwb.2.2.1 i (by omega) (by omega)
      have eF : τ (a + 1) i = σ (a + 1) i := hr i (Int.le_refl _)
      have eG : τ (b + 1) i = σ (b + 1) i := by rw [ho.row ha hb (Ne.symm hab)]
      have q1 := z_mulb (x := σ a 2) (y := σ (a + 1) i) (m := 1) (k := 999999999) (by omega) (by omega) dF.1 (by omega)
      have q2 := z_mulb (x := fc) (y := σ (b + 1) i) (m := 2147483648) (k := 999999999) (by omega) (by omega) dG.1 (by omega)
      obtain ⟨v, hv⟩ : ∃ v : Int, v = c + σ a 2 * σ (a + 1) i + fc * σ (b + 1) i := ⟨_, rfl⟩
      have hvr : r64 v := by constructor <;> omega
      have step : Z X (rX9_addTimes zN) mX9_addTimes 35 [(2, a), (2, b), (9, 0), (0, (len : Int)), (1, fc), (9, 0), (1, v / 1000000000), (9, 0), (0, ((i + 1 : Nat) : Int)), (9, 0), (9, 0), (9, 0), (9, 0)] [] zN (z_up τ (a + 1) i (v % 1000000000)) (zQv T) := by
        refine ih (i + 1) (v / 1000000000) _ (by omega) (by omega) (by omega) ho.upA (fun j => by rw [z_up_far _ _ _ (by omega)]; exact hs j) (by rw [z_up_row]; exact dg_fu hd (by omega) (by omega)) (fun j hj => by rw [z_up_row, fu_n _ _ (by omega)]; exact hr j (by omega)) ?_
        rw [z_up_row, dv_s, dv_fu_out (Int.le_refl _), fu_s, dv_s, dv_s, pw_s, Int.mul_add, Int.mul_add]
        have e1 : v / 1000000000 * (pw i * 1000000000) = (v / 1000000000 * 1000000000) * pw i := by
          rw [Int.mul_comm (pw i), Int.mul_assoc]
        have e2 : (v % 1000000000) * pw i + (v / 1000000000 * 1000000000) * pw i = v * pw i := by
          rw [← Int.add_mul]
          congr 1
          omega
        have e3 : v * pw i = c * pw i + σ a 2 * (σ (a + 1) i * pw i) + fc * (σ (b + 1) i * pw i) := by
          rw [hv, Int.add_mul, Int.add_mul, Int.mul_assoc, Int.mul_assoc]
        rw [e1]
        omega
      have eV : c + τ a 2 * τ (a + 1) i + fc * τ (b + 1) i = v := by rw [hs, eF, eG, hv]
      refine bk_X9_addTimes_35 ha hb ⟨by constructor <;> omega, by constructor <;> omega, fun q => absurd q (by omega), fun _ => ⟨ho.fix ha hf, by omega, by omega, by rw [hs, eF]; constructor <;> omega, by rw [eG]; constructor <;> omega, ?_⟩⟩
      rw [eV]
      refine ⟨hvr, fl_r v hvr, fun q => ?_, fun q => ?_⟩
      · rw [(fl_a q).2, (fl_a q).1]
        exact step
      · rw [(fl_b q).2, (fl_b q).1]
        exact step
  refine bk_X9_addTimes ha hb ⟨hwa.s32, hwb.s32, by constructor <;> omega, hfr, hwb.g32, ?_⟩
  rw [← hlen, ← hfc]
  exact key len 0 0 σ (by omega) (by decide) (by decide) OnW.rfl' (fun _ => rfl) hwa.2.2.1 (fun _ _ => rfl) (by
    show (0 : Int) + 0 * _ = _ * 0 + _ * 0
    rw [Int.mul_zero, Int.mul_zero, Int.zero_mul])
theorem c_multiply {X : ZS} {σ : ZM} {T : ZM → Prop} {a b c : Int} (ha : z_l a = (9, 3)) (hb : z_l b = (9, 3)) (hc : z_l c = (9, 3)) (hab : b ≠ a) (hac : c ≠ a) (hf : Fix σ) (hwa : WF σ a) (hwb : WF σ b) (hwc : WF σ c) (hs : σ b 1 + σ c 1 ≤ 12)
    (h : ∀ σ', OnW a σ σ' → WF σ' a → wv σ' a = wv σ b * wv σ c → T σ') : ZC X (rX9_multiply zN) mX9_multiply [(2, a), (2, b), (2, c)] zN σ (zQv T) := by
  have b1 := hwb.1
  have c1 := hwc.1
  obtain ⟨sb, hsb⟩ : ∃ k : Nat, (k : Int) = σ b 1 := ⟨(σ b 1).toNat, by omega⟩
  obtain ⟨sc, hsc⟩ : ∃ k : Nat, (k : Int) = σ c 1 := ⟨(σ c 1).toNat, by omega⟩
  have dvb : dv (σ (b + 1)) sb = wm σ b := (hwb.dvz (by omega) (by omega)).symm
  have dvc : dv (σ (c + 1)) sc = wm σ c := (hwc.dvz (by omega) (by omega)).symm
  have outer : ∀ (k i : Nat) (τ : ZM), i + k = sb → OnW a σ τ → dg (τ (a + 1)) 12 → (∀ j : Int, (i : Int) + sc ≤ j → j < 12 → τ (a + 1) j = 0) → dv (τ (a + 1)) 12 = dv (σ (b + 1)) i * dv (σ (c + 1)) sc →
      Z X (rX9_multiply zN) mX9_multiply 6 [(2, a), (2, b), (2, c), (0, (i : Int)), (9, 0), (9, 0), (9, 0), (9, 0), (9, 0), (9, 0), (9, 0)] [] zN τ (zQv T) := by
    intro k
    induction k with
    | zero =>
      intro i τ hi ho hd hz he
      have hib : i = sb := by omega
      subst hib
      refine bk_X9_multiply_6 ha hb hc ⟨by constructor <;> omega, by rw [ho.fld ha hb hab]; exact hwb.s32, fun _ => ?_, fun q => absurd (by rw [ho.fld ha hb hab]; omega) q⟩
      rw [ho.fld ha hb hab, ho.fld ha hc hac, ho.fld ha hb hab, ho.fld ha hc hac]
      have hw : wm τ a = wm σ b * wm σ c := by
        unfold wm at *
        rw [he, dvb, dvc]
      refine c_trim ha (z_leN (zo_9_0 ha) (by decide)) ((ho.fix ha hf).get ha 0 1 (by decide +kernel)) hd (by constructor <;> omega) (fun j g1 g2 g3 => hz j (by omega) g3) ?_ (fun q => ?_) (fun σ' ho2 hwf _ hv => h σ' (ho.trans ho2) hwf ?_)
      · rcases hwb.2.2.2.2.2.1 with e | e | e <;> rcases hwc.2.2.2.2.2.1 with e2 | e2 | e2 <;> rw [e, e2] <;> decide
      · rw [hw] at q
        intro w
        rcases Int.mul_eq_zero.mp w with w | w
        · rw [hwb.zero.mpr (hwb.2.2.2.2.2.2.mp w), Int.zero_mul] at q; exact q rfl
        · rw [hwc.zero.mpr (hwc.2.2.2.2.2.2.mp w), Int.mul_zero] at q; exact q rfl
      · rw [hv, hw]
        unfold wv
        rw [Int.mul_assoc, Int.mul_assoc, Int.mul_left_comm (σ c 2)]
    | succ k ih =>
      intro i τ hi ho hd hz he
      have dB := hwb.2.2.1 i (by omega) (by omega)
      have eB : τ (b + 1) i = σ (b + 1) i := by rw [ho.row ha hb hab]
      refine bk_X9_multiply_6 ha hb hc ⟨by constructor <;> omega, by rw [ho.fld ha hb hab]; exact hwb.s32, fun q => absurd q (by rw [ho.fld ha hb hab]; omega), fun _ => ⟨ho.fix ha hf, by omega, by omega, by rw [eB]; constructor <;> omega, ?_⟩⟩
      rw [eB]
      have inner : ∀ (l j : Nat) (y : Int) (υ : ZM), j + l = sc → 0 ≤ y → y < 1000000000 → OnW a σ υ → dg (υ (a + 1)) 12 → (∀ q : Int, (i : Int) + sc ≤ q → q < 12 → υ (a + 1) q = 0) → dv (υ (a + 1)) 12 + y * pw (i + j) = dv (τ (a + 1)) 12 + σ (b + 1) i * dv (σ (c + 1)) j * pw i →
          Z X (rX9_multiply zN) mX9_multiply 29 [(2, a), (2, b), (2, c), (0, (i : Int)), (1, σ (b + 1) i), (9, 0), (1, y), (9, 0), (0, (j : Int)), (9, 0), (9, 0)] [] zN υ (zQv T) := by
        intro l
        induction l with
        | zero =>
          intro j y υ hj hy0 hy1 ho2 hd2 hz2 he2
          have hjc : j = sc := by omega
          subst hjc
          have ec : υ c 1 = j := by rw [ho2.fld ha hc hac]; omega
          refine bk_X9_multiply_29 ha hb hc ⟨by constructor <;> omega, by rw [ec]; constructor <;> omega, fun _ => ⟨by rw [ec]; constructor <;> omega, fun q => absurd q (by rw [ec]; omega), fun _ => ⟨ho2.fix ha hf, by rw [ec]; omega, by rw [ec]; omega, ?_⟩⟩, fun q => absurd (by rw [ec]; exact Int.le_refl _) q⟩
          rw [ec]
          have := ih (i + 1) (z_up υ (a + 1) ((i + j : Nat) : Int) y) (by omega) ho2.upA (by rw [z_up_row]; exact dg_fu hd2 hy0 hy1) (fun q g1 g2 => by rw [z_up_row, fu_n _ _ (by omega)]; exact hz2 q (by omega) g2) ?_
          · exact this
          · rw [z_up_row, dv_fu (by omega), hz2 ((i + j : Nat) : Int) (by omega) (by omega), Int.sub_zero, he2, he, dv_s (σ (b + 1)) i, Int.add_mul]
            rw [Int.mul_right_comm (σ (b + 1) i)]
        | succ l ih2 =>
          intro j y υ hj hy0 hy1 ho2 hd2 hz2 he2
          have ec : υ c 1 = sc := by rw [ho2.fld ha hc hac]; omega
          have eC : υ (c + 1) j = σ (c + 1) j := by rw [ho2.row ha hc hac]
          have dC := hwc.2.2.1 j (by omega) (by omega)
          have dA := hd2 ((i + j : Nat) : Int) (by omega) (by omega)
          have p1 : 0 ≤ σ (b + 1) i * σ (c + 1) j := Int.mul_nonneg dB.1 dC.1
          have p2 : σ (b + 1) i * σ (c + 1) j ≤ 999999999 * 999999999 := Int.mul_le_mul (by omega) (by omega) dC.1 (by decide)
          obtain ⟨v, hv⟩ : ∃ v : Int, v = υ (a + 1) ((i + j : Nat) : Int) + σ (b + 1) i * σ (c + 1) j + y := ⟨_, rfl⟩
          have hv0 : 0 ≤ v := by omega
          refine bk_X9_multiply_29 ha hb hc ⟨by constructor <;> omega, by rw [ec]; constructor <;> omega, fun q => absurd q (by rw [ec]; omega), fun _ => ⟨by constructor <;> omega, fun q => absurd q (by omega), fun _ => ⟨ho2.fix ha hf, by omega, by omega, ?_, by omega, by omega, by rw [eC]; constructor <;> omega, ?_⟩⟩⟩
          · have : ((i : Int) + (j : Int)) = ((i + j : Nat) : Int) := by omega
            rw [this]; constructor <;> omega
          · have e0 : ((i : Int) + (j : Int)) = ((i + j : Nat) : Int) := by omega
            rw [e0, eC, ← hv]
            refine ⟨by constructor <;> omega, ?_⟩
            rw [Int.tdiv_eq_ediv_of_nonneg hv0, show v - v / 1000000000 * 1000000000 = v % 1000000000 by omega]
            have := ih2 (j + 1) (v / 1000000000) (z_up υ (a + 1) ((i + j : Nat) : Int) (v % 1000000000)) (by omega) (by omega) (by omega) ho2.upA (by rw [z_up_row]; exact dg_fu hd2 (by omega) (by omega)) (fun q g1 g2 => by rw [z_up_row, fu_n _ _ (by omega)]; exact hz2 q g1 g2) ?_
            · exact this
            · rw [z_up_row, dv_fu (by omega), dv_s (σ (c + 1)) j, show i + (j + 1) = i + j + 1 by omega, pw_s (i + j)]
              have e1 : v / 1000000000 * (pw (i + j) * 1000000000) = (v / 1000000000 * 1000000000) * pw (i + j) := by
                rw [Int.mul_comm (pw (i + j)), Int.mul_assoc]
              have e2 : (v % 1000000000 - υ (a + 1) ((i + j : Nat) : Int)) * pw (i + j) + (v / 1000000000 * 1000000000) * pw (i + j) = (σ (b + 1) i * σ (c + 1) j + y) * pw (i + j) := by
                rw [← Int.add_mul]
                congr 1
                omega
              have e3 : (σ (b + 1) i * σ (c + 1) j + y) * pw (i + j) = σ (b + 1) i * (σ (c + 1) j * pw j) * pw i + y * pw (i + j) := by
                rw [Int.add_mul, pw_add, Int.mul_comm (pw i) (pw j)]
                simp only [Int.mul_assoc]
              have e4 : σ (b + 1) i * (dv (σ (c + 1)) j + σ (c + 1) j * pw j) * pw i = σ (b + 1) i * dv (σ (c + 1)) j * pw i + σ (b + 1) i * (σ (c + 1) j * pw j) * pw i := by
                rw [Int.mul_add, Int.add_mul]
              rw [e1, e4]
              omega
      refine inner sc 0 0 τ (by omega) (by decide) (by decide) ho hd (fun q g1 g2 => hz q g1 g2) ?_
      show _ + 0 * _ = _ + _ * 0 * _
      rw [Int.zero_mul, Int.mul_zero, Int.zero_mul]
  refine bk_X9_multiply ha hb hc (c_clear ha (z_leN (zo_9_0 ha) (by decide)) (hf.get ha 0 1 (by decide +kernel)) hwa.1 hwa.2.1 hwa.2.2.2.1 (fun σ' ho g1 g2 g3 => ?_))
  refine outer sb 0 σ' (by omega) ho (fun i q1 q2 => by rw [g3 i q1 q2]; decide) (fun j q1 q2 => g3 j (by omega) q2) ?_
  rw [dv_zero (m := 0) (by decide) (fun i q1 q2 => g3 i q1 q2)]
  show (0 : Int) = 0 * _
  rw [Int.zero_mul]
