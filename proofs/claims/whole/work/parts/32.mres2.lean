theorem gx_gcd {g a b : Int} : gx g a b ↔ g = (Int.gcd a b : Int) := by
  constructor
  · rintro ⟨h0, hd⟩
    have d1 := (hd g).mp (Int.dvd_refl g)
    have d2 : (Int.gcd a b : Int) ∣ g := (hd _).mpr ⟨Int.gcd_dvd_left a b, Int.gcd_dvd_right a b⟩
    have d3 : g ∣ (Int.gcd a b : Int) := Int.dvd_coe_gcd d1.1 d1.2
    exact Int.dvd_antisymm h0 (Int.natCast_nonneg _) d3 d2
  · intro e
    subst e
    exact ⟨Int.natCast_nonneg _, fun d => ⟨fun q => ⟨Int.dvd_trans q (Int.gcd_dvd_left a b), Int.dvd_trans q (Int.gcd_dvd_right a b)⟩, fun q => Int.dvd_coe_gcd q.1 q.2⟩⟩
theorem gx_mul {g a b m : Int} (hm : 0 ≤ m) (h : gx g a b) : gx (g * m) (a * m) (b * m) := by
  rw [gx_gcd] at h ⊢
  rw [Int.gcd_mul_right, h]
  have : (m.natAbs : Int) = m := by omega
  rw [Int.natCast_mul, this]
theorem gx_sym {g a b : Int} (h : gx g a b) : gx g b a := ⟨h.1, fun d => by rw [h.2 d]; exact And.comm⟩
theorem gx_2 {g a b : Int} (ha : a % 2 = 0) (hb : b % 2 ≠ 0) (h : gx g (a / 2) b) : gx g a b := by
  refine ⟨h.1, fun d => ?_⟩
  rw [h.2 d]
  have e : a = 2 * (a / 2) := by omega
  refine ⟨fun ⟨h1, h2⟩ => ⟨?_, h2⟩, fun ⟨h1, h2⟩ => ⟨?_, h2⟩⟩
  · rw [e]; exact Int.dvd_trans h1 (Int.dvd_mul_left _ _)
  · rw [e] at h1
    refine z_cop h1 ?_
    have d1 : ((Int.gcd d 2 : Nat) : Int) ∣ 2 := Int.gcd_dvd_right d 2
    have d2 : ((Int.gcd d 2 : Nat) : Int) ∣ b := Int.dvd_trans (Int.gcd_dvd_left d 2) h2
    have d3 : Int.gcd d 2 ∣ 2 := Int.ofNat_dvd.mp d1
    have l : Int.gcd d 2 ≤ 2 := Nat.le_of_dvd (by decide) d3
    have n0 : Int.gcd d 2 ≠ 0 := by
      intro w
      rw [w] at d1
      have := Int.zero_dvd.mp d1
      omega
    have n2 : Int.gcd d 2 ≠ 2 := by
      intro w
      rw [w] at d2
      obtain ⟨c, hc⟩ := d2
      rw [hc] at hb
      have : ((2 : Nat) : Int) = 2 := rfl
      omega
    omega
theorem gx_sub {g a b : Int} (h : gx g (a - b) b) : gx g a b := by
  refine ⟨h.1, fun d => ?_⟩
  rw [h.2 d]
  refine ⟨fun ⟨h1, h2⟩ => ⟨?_, h2⟩, fun ⟨h1, h2⟩ => ⟨Int.dvd_sub h1 h2, h2⟩⟩
  have := Int.dvd_add h1 h2
  rw [Int.sub_add_cancel] at this; exact this
theorem pw2_big {t : Nat} {a x : Int} (ha : 1 ≤ a) (he : a * 2 ^ t = x) (hx : x < pw 15) : t < 449 := by
  rcases Nat.lt_or_ge t 449 with w | w
  · exact w
  · obtain ⟨s, rfl⟩ : ∃ s, t = 449 + s := ⟨t - 449, by omega⟩
    have h1 : (0 : Int) < 2 ^ s := Int.pow_pos (by decide)
    have h2 : (pw 15 : Int) < 2 ^ 449 := by unfold pw; decide +kernel
    have h3 : (2 : Int) ^ 449 * 1 ≤ 2 ^ 449 * 2 ^ s := Int.mul_le_mul_of_nonneg_left (by omega) (by decide)
    rw [← Int.pow_add] at h3
    have h4 : 1 * (2 : Int) ^ (449 + s) ≤ a * 2 ^ (449 + s) := Int.mul_le_mul_of_nonneg_right ha (by omega)
    omega
theorem c_result {X : ZS} {σ : ZM} {T : ZM → Prop} {v : Int → Int} {a b : Int} (a0 : 5 ≤ a) (a1 : a < 132) (b0 : 5 ≤ b) (b1 : b < 132) (hN : NM σ v) (ha : -pw 15 < v a) (hb : -pw 15 < v b) (hbz : v b ≠ 0)
    (h : ∀ σ' w, Mo σ σ' → NM σ' w → (∀ k : Int, 5 ≤ k → k < 132 → w k = v k) → lowt (v a) (v b) (w 0) (w 1) → T σ') : ZC X (rX12_result zN) mX12_result [(2, 211), (0, a), (0, b)] zN σ (zQv T) := by
  have hma := hN.2 a (by omega) a1
  have hmb := hN.2 b (by omega) b1
  have ra := hN.rng (show 0 ≤ a by omega) a1
  have rb := hN.rng (show 0 ≤ b by omega) b1
  obtain ⟨A0, hA0⟩ : ∃ x : Int, x = ((v a).natAbs : Int) := ⟨_, rfl⟩
  obtain ⟨B0, hB0⟩ : ∃ x : Int, x = ((v b).natAbs : Int) := ⟨_, rfl⟩
  have B0p : 0 < B0 := by omega
  have A0n : 0 ≤ A0 := by omega
  have hAl : A0 < pw 15 := by omega
  have hBl : B0 < pw 15 := by omega
  have pp := pw_pos 15
  -- the quotient
  have fin : ∀ (y : Int), (y = 0 ∧ (v a < 0 ↔ v b < 0) ∨ y = 1 ∧ ¬ (v a < 0 ↔ v b < 0)) → 0 < A0 → ∀ (t : Nat) (G : Int), t < 449 → 0 < G → gx (G * 2 ^ t) A0 B0 → ∀ (l k : Nat) (τ : ZM) (w : Int → Int), k + l = t → Mo σ τ → NM τ w → w 0 = A0 → w 1 = B0 → (∀ k : Int, 5 ≤ k → k < 132 → w k = v k) → w 3 = G * 2 ^ k →
      Z X (rX12_result zN) mX12_result 195 [(2, 211), (9, 0), (9, 0), (0, y), (0, (t : Int)), (0, (k : Int))] [] zN τ (zQv T) := by
    intro y hy A0p t G ht hG hgx l
    have hgd := (hgx.2 _).mp (Int.dvd_refl _)
    have gp : 0 < G * 2 ^ t := Int.mul_pos hG (Int.pow_pos (by decide))
    have gle := Int.le_of_dvd B0p hgd.2
    induction l with
    | zero =>
      intro k τ w hk ho hn w0 w1 wr w3
      have : k = t := by omega
      subst this
      have lw := lowt_of (sa := if v a < 0 then -1 else 1) (sb := if v b < 0 then -1 else 1) (by split <;> omega) (by split <;> omega) hgx B0p
      have ea : (if v a < 0 then -1 else 1) * A0 = v a := by split <;> omega
      have eb : (if v b < 0 then -1 else 1) * B0 = v b := by split <;> omega
      have ess : (if v b < 0 then (-1 : Int) else 1) * (if v b < 0 then -1 else 1) = 1 := by split <;> decide
      rw [ea, eb, ess, Int.one_mul] at lw
      obtain ⟨g, hg⟩ : ∃ g : Int, g = G * 2 ^ k := ⟨_, rfl⟩
      rw [← hg] at lw gp w3 gle
      have qA : 0 ≤ A0 / g := Int.ediv_nonneg A0n (by omega)
      have qA1 : A0 / g ≤ A0 := Int.ediv_le_self _ A0n
      refine bk_X12_result_195 ⟨by constructor <;> omega, by constructor <;> omega, fun _ => ?_, fun q => absurd (Int.le_refl _) q⟩
      refine c_parts (by decide) (by decide) (by decide) (by decide) hn (by omega) (by omega) (by omega) (fun σ4 o4 n4 => ?_)
      rw [w0, w3, Int.tdiv_eq_ediv_of_nonneg A0n] at n4
      have f1 : fu w 0 (A0 / g) 1 = B0 := by rw [fu_n _ _ (by decide), w1]
      have f3 : fu w 0 (A0 / g) 3 = g := by rw [fu_n _ _ (by decide), w3]
      refine c_parts (by decide) (by decide) (by decide) (by decide) n4 (by rw [f1]; omega) (by rw [f3]; omega) (by rw [f3]; omega) (fun σ6 o6 n6 => ?_)
      rw [f1, f3, Int.tdiv_eq_ediv_of_nonneg (by omega)] at n6
      have u0 : fu (fu w 0 (A0 / g)) 1 (B0 / g) 0 = A0 / g := by rw [fu_n _ _ (by decide), fu_s]
      refine ⟨by omega, fun q => ?_, fun q => ?_⟩
      · have hs : (v a < 0 ↔ v b < 0) := by omega
        have e1 : (if v a < 0 then (-1 : Int) else 1) * (if v b < 0 then -1 else 1) = 1 := by split <;> split <;> omega
        rw [e1, Int.one_mul] at lw
        refine h σ6 _ ((ho.trans o4).trans o6) n6 (fun k' k0 k1 => by rw [fu_n _ _ (by omega), fu_n _ _ (by omega)]; exact wr k' k0 k1) ?_
        rw [u0, fu_s]; exact lw
      · have hs : ¬ (v a < 0 ↔ v b < 0) := by omega
        have e1 : (if v a < 0 then (-1 : Int) else 1) * (if v b < 0 then -1 else 1) = -1 := by split <;> split <;> omega
        rw [e1] at lw
        refine c_turn (by decide) (by decide) n6 (by rw [u0]; omega) (fun σ9 o9 n9 => ?_)
        refine h σ9 _ (((ho.trans o4).trans o6).trans o9) n9 (fun k' k0 k1 => by rw [fu_n _ _ (by omega), fu_n _ _ (by omega), fu_n _ _ (by omega)]; exact wr k' k0 k1) ?_
        rw [u0, fu_s, fu_n _ _ (by decide), fu_s, Int.neg_eq_neg_one_mul]; exact lw
    | succ l ih =>
      intro k τ w hk ho hn w0 w1 wr w3
      have hb2 : G * 2 ^ (k + 1) ≤ G * 2 ^ t := by
        obtain ⟨s, rfl⟩ : ∃ s, t = k + 1 + s := ⟨t - (k + 1), by omega⟩
        have h1 : (0 : Int) < 2 ^ s := Int.pow_pos (by decide)
        have h2 : (0 : Int) < G * 2 ^ (k + 1) := Int.mul_pos hG (Int.pow_pos (by decide))
        rw [Int.pow_add 2 (k + 1) s, ← Int.mul_assoc]
        have := Int.mul_le_mul_of_nonneg_left (show (1 : Int) ≤ 2 ^ s by omega) (Int.le_of_lt h2)
        omega
      have h2 : (0 : Int) < G * 2 ^ k := Int.mul_pos hG (Int.pow_pos (by decide))
      rw [Int.pow_succ] at hb2
      have hb3 : G * (2 ^ k * 2) = G * 2 ^ k * 2 := by rw [Int.mul_assoc]
      refine bk_X12_result_195 ⟨by constructor <;> omega, by constructor <;> omega, fun q => absurd q (by omega), fun _ => ?_⟩
      refine c_copy (by decide) (by decide) (by decide) (by decide) hn (fun σ11 o11 n11 => ?_)
      have f3 : fu w 4 (w 3) 3 = G * 2 ^ k := by rw [fu_n _ _ (by decide), w3]
      have f4 : fu w 4 (w 3) 4 = G * 2 ^ k := by rw [fu_s, w3]
      refine c_more (by decide) (by decide) (by decide) (by decide) (by decide) n11 (by decide) (by rw [f3, f4]; omega) (by rw [f3, f4]; omega) (fun σ13 o13 n13 => ?_)
      rw [f3, f4] at n13
      refine ih (k + 1) σ13 _ (by omega) ((ho.trans o11).trans o13) n13 (by rw [fu_n _ _ (by decide), fu_n _ _ (by decide)]; exact w0) (by rw [fu_n _ _ (by decide), fu_n _ _ (by decide)]; exact w1) (fun k' k0 k1 => by rw [fu_n _ _ (by omega), fu_n _ _ (by omega)]; exact wr k' k0 k1) ?_
      rw [fu_s, Int.pow_succ]
      omega
  -- Stein's loop
  have loop : ∀ (y : Int), (y = 0 ∧ (v a < 0 ↔ v b < 0) ∨ y = 1 ∧ ¬ (v a < 0 ↔ v b < 0)) → 0 < A0 → ∀ (t : Nat), t < 449 → ∀ (n : Nat) (τ : ZM) (w : Int → Int), w 2 + w 3 ≤ n → Mo σ τ → NM τ w → w 0 = A0 → w 1 = B0 → (∀ k : Int, 5 ≤ k → k < 132 → w k = v k) → 0 ≤ w 2 → 0 < w 3 → (w 2 % 2 ≠ 0 ∨ w 3 % 2 ≠ 0) → (∀ g, gx g (w 2) (w 3) → gx (g * 2 ^ t) A0 B0) →
      Z X (rX12_result zN) mX12_result 119 [(2, 211), (9, 0), (9, 0), (0, y), (0, (t : Int)), (9, 0)] [] zN τ (zQv T) := by
    intro y hy A0p t ht n
    induction n with
    | zero => intro τ w hn; intros; omega
    | succ n ih =>
      intro τ w hn ho hM w0 w1 wr p2 p3 hodd hg
      have m2 := hM.2 2 (by decide) (by decide)
      refine bk_X12_result_119 (c_isZero (by decide) (by decide) hM.1 m2.1 ⟨fun q => ?_, fun q => ?_⟩)
      · have z := of_decide_eq_true q
        rw [m2.2] at z
        rw [z] at hg
        exact fin y hy A0p t (w 3) ht p3 (hg _ (gx_sym (gx_end (by omega)))) t 0 τ w (by omega) ho hM w0 w1 wr (by rw [Int.pow_zero, Int.mul_one])
      · have z := of_decide_eq_false q
        rw [m2.2] at z
        -- behind both: two odd numbers
        have both : ∀ (τ : ZM) (w : Int → Int), w 2 + w 3 ≤ (n : Int) + 1 → Mo σ τ → NM τ w → w 0 = A0 → w 1 = B0 → (∀ k : Int, 5 ≤ k → k < 132 → w k = v k) → 0 < w 2 → 0 < w 3 → w 2 % 2 ≠ 0 → w 3 % 2 ≠ 0 → (∀ g, gx g (w 2) (w 3) → gx (g * 2 ^ t) A0 B0) →
            ZC X (rX12_isLess zN) mX12_isLess [(2, 211), (0, 2), (0, 3)] zN τ (zQz (fun r3 σ4 => ((r3 = false) → ZC X (rX12_more zN) mX12_more [(2, 211), (0, 2), (0, 3), (1, (-1))] zN σ4 (zQv (fun σ6 => Z X (rX12_result zN) mX12_result 119 [(2, 211), (9, 0), (9, 0), (0, y), (0, (t : Int)), (9, 0)] [] zN σ6 (zQv T)))) ∧ ((r3 = true) → ZC X (rX12_more zN) mX12_more [(2, 211), (0, 3), (0, 2), (1, (-1))] zN σ4 (zQv (fun σ8 => Z X (rX12_result zN) mX12_result 119 [(2, 211), (9, 0), (9, 0), (0, y), (0, (t : Int)), (9, 0)] [] zN σ8 (zQv T)))))) := by
          intro τ w hn ho hM w0 w1 wr p2 p3 o2 o3 hg
          have m2 := hM.2 2 (by decide) (by decide)
          have m3 := hM.2 3 (by decide) (by decide)
          have r2 := hM.rng (show (0 : Int) ≤ 2 by decide) (by decide)
          have r3 := hM.rng (show (0 : Int) ≤ 3 by decide) (by decide)
          refine c_isLess (by decide) (by decide) (by decide) (by decide) hM.1 m2.1 m3.1 ⟨fun q => ?_, fun q => ?_⟩
          · have z := of_decide_eq_false q
            rw [m2.2, m3.2] at z
            refine c_more (by decide) (by decide) (by decide) (by decide) (by decide) hM (by decide) (by omega) (by omega) (fun σ6 o6 n6 => ?_)
            rw [show w 2 + w 3 * -1 = w 2 - w 3 by omega] at n6
            have f2 : fu w 2 (w 2 - w 3) 2 = w 2 - w 3 := fu_s _ _ _
            have f3 : fu w 2 (w 2 - w 3) 3 = w 3 := fu_n _ _ (by decide)
            refine ih σ6 _ (by rw [f2, f3]; omega) (ho.trans o6) n6 (by rw [fu_n _ _ (by decide)]; exact w0) (by rw [fu_n _ _ (by decide)]; exact w1) (fun k k0 k1 => by rw [fu_n _ _ (by omega)]; exact wr k k0 k1) (by rw [f2]; omega) (by rw [f3]; exact p3) (Or.inr (by rw [f3]; exact o3)) (fun g hg' => ?_)
            rw [f2, f3] at hg'
            exact hg g (gx_sub hg')
          · have z := of_decide_eq_true q
            rw [m2.2, m3.2] at z
            refine c_more (by decide) (by decide) (by decide) (by decide) (by decide) hM (by decide) (by omega) (by omega) (fun σ6 o6 n6 => ?_)
            rw [show w 3 + w 2 * -1 = w 3 - w 2 by omega] at n6
            have f2 : fu w 3 (w 3 - w 2) 2 = w 2 := fu_n _ _ (by decide)
            have f3 : fu w 3 (w 3 - w 2) 3 = w 3 - w 2 := fu_s _ _ _
            refine ih σ6 _ (by rw [f2, f3]; omega) (ho.trans o6) n6 (by rw [fu_n _ _ (by decide)]; exact w0) (by rw [fu_n _ _ (by decide)]; exact w1) (fun k k0 k1 => by rw [fu_n _ _ (by omega)]; exact wr k k0 k1) (by rw [f2]; omega) (by rw [f3]; omega) (Or.inl (by rw [f2]; exact o2)) (fun g hg' => ?_)
            rw [f2, f3] at hg'
            exact hg g (gx_sym (gx_sub (gx_sym hg')))
        have l3 : ∀ (m : Nat) (τ : ZM) (w : Int → Int), w 3 ≤ m → w 2 + w 3 ≤ (n : Int) + 1 → Mo σ τ → NM τ w → w 0 = A0 → w 1 = B0 → (∀ k : Int, 5 ≤ k → k < 132 → w k = v k) → 0 < w 2 → 0 < w 3 → w 2 % 2 ≠ 0 → (∀ g, gx g (w 2) (w 3) → gx (g * 2 ^ t) A0 B0) →
            Z X (rX12_result zN) mX12_result 143 [(2, 211), (9, 0), (9, 0), (0, y), (0, (t : Int)), (9, 0)] [] zN τ (zQv T) := by
          intro m
          induction m with
          | zero => intro τ w hm; intros; omega
          | succ m ihm =>
            intro τ w hm hn ho hM w0 w1 wr p2 p3 o2 hg
            have m3 := hM.2 3 (by decide) (by decide)
            refine bk_X12_result_143 (c_isEven (by decide) (by decide) hM.1 m3.1 ⟨fun q => ?_, fun q => ?_⟩)
            · have z := of_decide_eq_false q
              rw [m3.2] at z
              exact both τ w hn ho hM w0 w1 wr p2 p3 o2 z hg
            · have z := of_decide_eq_true q
              rw [m3.2] at z
              refine c_half (by decide) (by decide) hM (by omega) (fun σ6 o6 n6 => ?_)
              have f2 : fu w 3 (w 3 / 2) 2 = w 2 := fu_n _ _ (by decide)
              have f3 : fu w 3 (w 3 / 2) 3 = w 3 / 2 := fu_s _ _ _
              refine ihm σ6 _ (by rw [f3]; omega) (by rw [f2, f3]; omega) (ho.trans o6) n6 (by rw [fu_n _ _ (by decide)]; exact w0) (by rw [fu_n _ _ (by decide)]; exact w1) (fun k k0 k1 => by rw [fu_n _ _ (by omega)]; exact wr k k0 k1) (by rw [f2]; omega) (by rw [f3]; omega) (by rw [f2]; exact o2) (fun g hg' => ?_)
              rw [f2, f3] at hg'
              exact hg g (gx_sym (gx_2 z o2 (gx_sym hg')))
        have l2 : ∀ (m : Nat) (τ : ZM) (w : Int → Int), w 2 ≤ m → w 2 + w 3 ≤ (n : Int) + 1 → Mo σ τ → NM τ w → w 0 = A0 → w 1 = B0 → (∀ k : Int, 5 ≤ k → k < 132 → w k = v k) → 0 < w 2 → 0 < w 3 → (w 2 % 2 ≠ 0 ∨ w 3 % 2 ≠ 0) → (∀ g, gx g (w 2) (w 3) → gx (g * 2 ^ t) A0 B0) →
            Z X (rX12_result zN) mX12_result 127 [(2, 211), (9, 0), (9, 0), (0, y), (0, (t : Int)), (9, 0)] [] zN τ (zQv T) := by
          intro m
          induction m with
          | zero => intro τ w hm; intros; omega
          | succ m ihm =>
            intro τ w hm hn ho hM w0 w1 wr p2 p3 hodd hg
            have m2 := hM.2 2 (by decide) (by decide)
            refine bk_X12_result_127 (c_isEven (by decide) (by decide) hM.1 m2.1 ⟨fun q => ?_, fun q => ?_⟩)
            · have z := of_decide_eq_false q
              rw [m2.2] at z
              exact l3 (w 3).toNat τ w (by omega) hn ho hM w0 w1 wr p2 p3 z hg
            · have z := of_decide_eq_true q
              rw [m2.2] at z
              have o3 : w 3 % 2 ≠ 0 := by omega
              refine c_half (by decide) (by decide) hM (by omega) (fun σ6 o6 n6 => ?_)
              have f2 : fu w 2 (w 2 / 2) 2 = w 2 / 2 := fu_s _ _ _
              have f3 : fu w 2 (w 2 / 2) 3 = w 3 := fu_n _ _ (by decide)
              refine ihm σ6 _ (by rw [f2]; omega) (by rw [f2, f3]; omega) (ho.trans o6) n6 (by rw [fu_n _ _ (by decide)]; exact w0) (by rw [fu_n _ _ (by decide)]; exact w1) (fun k k0 k1 => by rw [fu_n _ _ (by omega)]; exact wr k k0 k1) (by rw [f2]; omega) (by rw [f3]; omega) (Or.inr (by rw [f3]; exact o3)) (fun g hg' => ?_)
              rw [f2, f3] at hg'
              exact hg g (gx_2 z o3 hg')
        exact l2 (w 2).toNat τ w (by omega) (by omega) ho hM w0 w1 wr (by omega) p3 hodd hg
  have twos : ∀ (y : Int), (y = 0 ∧ (v a < 0 ↔ v b < 0) ∨ y = 1 ∧ ¬ (v a < 0 ↔ v b < 0)) → 0 < A0 → ∀ (n t : Nat) (τ : ZM) (w : Int → Int), w 2 ≤ n → Mo σ τ → NM τ w → w 0 = A0 → w 1 = B0 → (∀ k : Int, 5 ≤ k → k < 132 → w k = v k) → 0 < w 2 → 0 < w 3 → w 2 * 2 ^ t = A0 → w 3 * 2 ^ t = B0 →
      Z X (rX12_result zN) mX12_result 87 [(2, 211), (9, 0), (9, 0), (0, y), (0, (t : Int)), (9, 0)] [] zN τ (zQv T) := by
    intro y hy A0p n
    induction n with
    | zero => intro t τ w hn; intros; omega
    | succ n ih =>
      intro t τ w hn ho hM w0 w1 wr p2 p3 e2 e3
      have m2 := hM.2 2 (by decide) (by decide)
      have m3 := hM.2 3 (by decide) (by decide)
      have tb := pw2_big (show 1 ≤ w 2 by omega) e2 hAl
      have on : (w 2 % 2 ≠ 0 ∨ w 3 % 2 ≠ 0) → Z X (rX12_result zN) mX12_result 119 [(2, 211), (9, 0), (9, 0), (0, y), (0, (t : Int)), (9, 0)] [] zN τ (zQv T) := fun hodd =>
        loop y hy A0p t tb (w 2 + w 3).toNat τ w (by omega) ho hM w0 w1 wr (by omega) p3 hodd (fun g hg => by
          have := gx_mul (m := 2 ^ t) (Int.le_of_lt (Int.pow_pos (by decide))) hg
          rw [e2, e3] at this; exact this)
      refine bk_X12_result_87 (c_isEven (by decide) (by decide) hM.1 m2.1 ⟨fun q => ?_, fun q => c_isEven (by decide) (by decide) hM.1 m3.1 ⟨fun q2 => ?_, fun q2 => ?_⟩⟩)
      · have z := of_decide_eq_false q
        rw [m2.2] at z
        exact on (Or.inl z)
      · have z := of_decide_eq_false q2
        rw [m3.2] at z
        exact on (Or.inr z)
      · have z := of_decide_eq_true q
        have z2 := of_decide_eq_true q2
        rw [m2.2] at z
        rw [m3.2] at z2
        refine c_half (by decide) (by decide) hM (by omega) (fun σ6 o6 n6 => ?_)
        have g3 : fu w 2 (w 2 / 2) 3 = w 3 := fu_n _ _ (by decide)
        refine c_half (by decide) (by decide) n6 (by rw [g3]; omega) (fun σ8 o8 n8 => ?_)
        rw [g3] at n8
        have f2 : fu (fu w 2 (w 2 / 2)) 3 (w 3 / 2) 2 = w 2 / 2 := by rw [fu_n _ _ (by decide), fu_s]
        have f3 : fu (fu w 2 (w 2 / 2)) 3 (w 3 / 2) 3 = w 3 / 2 := fu_s _ _ _
        refine ih (t + 1) σ8 _ (by rw [f2]; omega) ((ho.trans o6).trans o8) n8 (by rw [fu_n _ _ (by decide), fu_n _ _ (by decide)]; exact w0) (by rw [fu_n _ _ (by decide), fu_n _ _ (by decide)]; exact w1) (fun k k0 k1 => by rw [fu_n _ _ (by omega), fu_n _ _ (by omega)]; exact wr k k0 k1) (by rw [f2]; omega) (by rw [f3]; omega) ?_ ?_
        · rw [f2, ← e2, Int.pow_succ, Int.mul_comm (2 ^ t) 2, ← Int.mul_assoc, show w 2 / 2 * 2 = w 2 by omega]
        · rw [f3, ← e3, Int.pow_succ, Int.mul_comm (2 ^ t) 2, ← Int.mul_assoc, show w 3 / 2 * 2 = w 3 by omega]
  have tail : ∀ (y : Int), (y = 0 ∧ (v a < 0 ↔ v b < 0) ∨ y = 1 ∧ ¬ (v a < 0 ↔ v b < 0)) → ∀ (τ : ZM) (w : Int → Int), Mo σ τ → NM τ w → w 0 = A0 → w 1 = B0 → (∀ k : Int, 5 ≤ k → k < 132 → w k = v k) →
      ZC X (rX12_isZero zN) mX12_isZero [(2, 211), (0, 0)] zN τ (zQz (fun r9 σ10 => ((r9 = false) → ZC X (rX12_copy zN) mX12_copy [(2, 211), (0, 2), (0, 0)] zN σ10 (zQv (fun σ12 => ZC X (rX12_copy zN) mX12_copy [(2, 211), (0, 3), (0, 1)] zN σ12 (zQv (fun σ14 => Z X (rX12_result zN) mX12_result 87 [(2, 211), (9, 0), (9, 0), (0, y), (0, 0), (9, 0)] [] zN σ14 (zQv T)))))) ∧ ((r9 = true) → ZC X (rX12_set zN) mX12_set [(2, 211), (0, 1), (1, 1)] zN σ10 (zQv (fun σ16 => T σ16))))) := by
    intro y hy τ w ho hM w0 w1 wr
    have m0 := hM.2 0 (by decide) (by decide)
    refine c_isZero (by decide) (by decide) hM.1 m0.1 ⟨fun q => ?_, fun q => ?_⟩
    · have z := of_decide_eq_false q
      rw [m0.2, w0] at z
      refine c_copy (by decide) (by decide) (by decide) (by decide) hM (fun σ12 o12 n12 => ?_)
      refine c_copy (by decide) (by decide) (by decide) (by decide) n12 (fun σ14 o14 n14 => ?_)
      rw [w0, fu_n _ _ (show (1 : Int) ≠ 2 by decide), w1] at n14
      have f2 : fu (fu w 2 A0) 3 B0 2 = A0 := by rw [fu_n _ _ (by decide), fu_s]
      have f3 : fu (fu w 2 A0) 3 B0 3 = B0 := fu_s _ _ _
      exact twos y hy (by omega) A0.toNat 0 σ14 _ (by rw [f2]; omega) ((ho.trans o12).trans o14) n14 (by rw [fu_n _ _ (by decide), fu_n _ _ (by decide)]; exact w0) (by rw [fu_n _ _ (by decide), fu_n _ _ (by decide)]; exact w1) (fun k k0 k1 => by rw [fu_n _ _ (by omega), fu_n _ _ (by omega)]; exact wr k k0 k1) (by rw [f2]; omega) (by rw [f3]; omega) (by rw [f2, Int.pow_zero, Int.mul_one]) (by rw [f3, Int.pow_zero, Int.mul_one])
    · have z := of_decide_eq_true q
      rw [m0.2, w0] at z
      have va : v a = 0 := by omega
      refine c_set (by decide) (by decide) hM (by decide) (by decide) (fun σ16 o16 n16 => h σ16 _ (ho.trans o16) n16 (fun k k0 k1 => by rw [fu_n _ _ (by omega)]; exact wr k k0 k1) ?_)
      rw [fu_n _ _ (by decide), fu_s, w0, z, va]
      exact ⟨by decide, by rw [Int.zero_mul, Int.zero_mul], fun d _ h2 => h2⟩
  have go : ∀ (y : Int), (y = 0 ∧ (v a < 0 ↔ v b < 0) ∨ y = 1 ∧ ¬ (v a < 0 ↔ v b < 0)) → Z X (rX12_result zN) mX12_result 18 [(2, 211), (0, a), (0, b), (9, 0), (9, 0), (9, 0)] [(0, y)] zN σ (zQv T) := by
    intro y hy
    refine bk_X12_result_18 (c_copy (by decide) (by decide) (by omega) a1 hN (fun σ2 o2 n2 => ?_))
    refine c_copy (by decide) (by decide) (by omega) b1 n2 (fun σ4 o4 n4 => ?_)
    rw [fu_n _ _ (show b ≠ 0 by omega)] at n4
    have o24 := o2.trans o4
    have m0 := n4.2 0 (by decide) (by decide)
    have f0 : fu (fu v 0 (v a)) 1 (v b) 0 = v a := by rw [fu_n _ _ (by decide), fu_s]
    have f1 : fu (fu v 0 (v a)) 1 (v b) 1 = v b := fu_s _ _ _
    have fr : ∀ k : Int, 5 ≤ k → k < 132 → fu (fu v 0 (v a)) 1 (v b) k = v k := fun k k0 k1 => by rw [fu_n _ _ (by omega), fu_n _ _ (by omega)]
    rw [f0] at m0
    refine c_isBelow (by decide) (by decide) n4.1 m0.1 ⟨fun q => ?_, fun q => ?_⟩
    · have z := of_decide_eq_false q
      rw [m0.2] at z
      have m1 := n4.2 1 (by decide) (by decide)
      rw [f1] at m1
      refine c_isBelow (by decide) (by decide) n4.1 m1.1 ⟨fun q2 => ?_, fun q2 => ?_⟩
      · have z2 := of_decide_eq_false q2
        rw [m1.2] at z2
        exact tail y hy σ4 _ o24 n4 (by rw [f0]; omega) (by rw [f1]; omega) fr
      · have z2 := of_decide_eq_true q2
        rw [m1.2] at z2
        refine c_turn (by decide) (by decide) n4 (by rw [f1]; exact hb) (fun σ18 o18 n18 => ?_)
        rw [f1] at n18
        exact tail y hy σ18 _ (o24.trans o18) n18 (by rw [fu_n _ _ (by decide), f0]; omega) (by rw [fu_s]; omega) (fun k k0 k1 => by rw [fu_n _ _ (by omega)]; exact fr k k0 k1)
    · have z := of_decide_eq_true q
      rw [m0.2] at z
      refine c_turn (by decide) (by decide) n4 (by rw [f0]; exact ha) (fun σ28 o28 n28 => ?_)
      rw [f0] at n28
      have g0 : fu (fu (fu v 0 (v a)) 1 (v b)) 0 (-v a) 0 = -v a := fu_s _ _ _
      have g1 : fu (fu (fu v 0 (v a)) 1 (v b)) 0 (-v a) 1 = v b := by rw [fu_n _ _ (by decide), f1]
      have m1 := n28.2 1 (by decide) (by decide)
      rw [g1] at m1
      refine c_isBelow (by decide) (by decide) n28.1 m1.1 ⟨fun q2 => ?_, fun q2 => ?_⟩
      · have z2 := of_decide_eq_false q2
        rw [m1.2] at z2
        exact tail y hy σ28 _ (o24.trans o28) n28 (by rw [g0]; omega) (by rw [g1]; omega) (fun k k0 k1 => by rw [fu_n _ _ (by omega)]; exact fr k k0 k1)
      · have z2 := of_decide_eq_true q2
        rw [m1.2] at z2
        refine c_turn (by decide) (by decide) n28 (by rw [g1]; exact hb) (fun σ18 o18 n18 => ?_)
        rw [g1] at n18
        exact tail y hy σ18 _ ((o24.trans o28).trans o18) n18 (by rw [fu_n _ _ (by decide), g0]; omega) (by rw [fu_s]; omega) (fun k k0 k1 => by rw [fu_n _ _ (by omega), fu_n _ _ (by omega)]; exact fr k k0 k1)
  have zbd : ∀ p q : Prop, [Decidable p] → [Decidable q] → (zb (decide p) = zb (decide q) ↔ (p ↔ q)) := by
    intro p q _ _
    by_cases hp : p <;> by_cases hq : q <;> simp [hp, hq, zb]
  refine bk_X12_result (c_isBelow (by omega) a1 hN.1 hma.1 (c_isBelow (by omega) b1 hN.1 hmb.1 ⟨fun w => go 0 (Or.inl ⟨rfl, ?_⟩), fun w => go 1 (Or.inr ⟨rfl, ?_⟩)⟩))
  · rw [zbd, hma.2, hmb.2] at w; exact w
  · rw [zbd, hma.2, hmb.2] at w; exact w
