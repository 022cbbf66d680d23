theorem tm_r {g l r o : Int} (g0 : 0 ≤ g) (g1 : g < 1000000000) (l0 : 0 ≤ l) (l1 : l < 1000000000) (r0 : 0 ≤ r) (r1 : r < 1000000000) (o0 : 0 ≤ o) (o1 : o < 1000000000) : 0 ≤ g + l * r + o ∧ g + l * r + o < 1000000000000000000 := by
  have a : 0 ≤ l * r := Int.mul_nonneg l0 r0
  have b : l * r ≤ 999999999 * r := Int.mul_le_mul_of_nonneg_right (by omega) r0
  omega
/-- multiples of a whole that are below it are 0 -/
theorem z_mul0 {a p : Int} (ha : 0 ≤ a) (h : a * p < p) (hp : 0 < p) : a = 0 := by
  rcases Int.lt_or_le 0 a with w | w
  · have : 1 * p ≤ a * p := Int.mul_le_mul_of_nonneg_right (by omega) (by omega)
    omega
  · omega
theorem OnR.fix21 {r : Int} {σ τ : ZM} {m : Nat} (h : OnR r σ τ) (hl : z_l r = (21, m)) (hf : Fix σ) : Fix τ := by
  intro c k d hd
  rw [h c k]
  · exact hf c k d hd
  · rintro rfl
    rw [hl] at hd
    rw [z_off_arr (show 20 ≤ 21 by decide)] at hd
    cases hd
theorem dv_mono {f : Int → Int} {m n : Nat} (hd : dg f n) (h : m ≤ n) : dv f m ≤ dv f n := by
  obtain ⟨k, rfl⟩ : ∃ k, n = m + k := ⟨n - m, by omega⟩
  rw [dv_split]
  have : 0 ≤ dv (sh f m) k := (dv_rng (fun j j0 j1 => hd _ (by omega) (by omega))).1
  have := Int.mul_nonneg (Int.le_of_lt (pw_pos m)) this
  omega
theorem tm_end {o l q p16 g tot : Int} (ho : 0 ≤ o) (hl : 0 ≤ l) (hq : 0 ≤ q) (hg : 0 ≤ g) (hp : 0 < p16) (he : g + o * p16 + l * q * p16 = tot) (ht : tot < p16) : g = tot := by
  have hlq : 0 ≤ l * q := Int.mul_nonneg hl hq
  have e : (o + l * q) * p16 = o * p16 + l * q * p16 := Int.add_mul _ _ _
  have := z_mul0 (a := o + l * q) (by omega) (by omega) hp
  rw [this, Int.zero_mul] at e
  omega
theorem tm_step {g gi v m d o l r A B C : Int} (hv : v = gi + l * r + o) (hd : 1000000000 * d + m = v) : g + (m - gi) * (A * B) + d * (A * B * 1000000000) + l * A * (C - r * B) = g + o * (A * B) + l * A * C := by
  subst hv
  have : d * (A * B * 1000000000) = (1000000000 * d) * (A * B) := by grind
  rw [this, show 1000000000 * d = gi + l * r + o - m by omega]
  grind
theorem c_times {X : ZS} {σ : ZM} {T : ZM → Prop} {v : Int → Int} {t a b : Int} (t0 : 0 ≤ t) (t1 : t < 132) (a0 : 0 ≤ a) (a1 : a < 132) (b0 : 0 ≤ b) (b1 : b < 132) (hN : NM σ v) (ha : -pw 15 < v a) (hb : -pw 15 < v b) (hlo : -pw 15 < v a * v b) (hhi : v a * v b < pw 15)
    (h : ∀ σ', Mo σ σ' → NM σ' (fu v t (v a * v b)) → T σ') : ZC X (rX12_times zN) mX12_times [(2, 211), (0, t), (0, a), (0, b)] zN σ (zQv T) := by
  have hma := hN.2 a a0 a1
  have hmb := hN.2 b b0 b1
  obtain ⟨P, hP⟩ : ∃ P : Int, P = ((v a).natAbs : Int) * ((v b).natAbs : Int) := ⟨_, rfl⟩
  have hP0 : 0 ≤ P := by rw [hP]; exact Int.mul_nonneg (by omega) (by omega)
  have hPa : P = ((v a * v b).natAbs : Int) := by rw [hP, Int.natAbs_mul]; omega
  have hP1 : P < pw 15 := by rw [hPa]; omega
  have p16 : pw 16 = pw 15 * 1000000000 := pw_s 15
  have pp := pw_pos 15
  have hP2 : P < pw 16 := by omega
  -- the end: the product into its place, and its sign
  have fin : ∀ (s : Int), (s = 0 ∧ v a * v b = P ∨ s = 1 ∧ v a * v b = -P) → ∀ (l i : Nat) (τ : ZM), i + l = 16 → Mo σ τ → Fix τ → (∀ k : Int, 0 ≤ k → k < 132 → k ≠ t → MF τ k ∧ mv τ k = v k) → dg (τ 223) 16 → dv (τ 223) 16 = P → (∀ j : Int, 0 ≤ j → j < i → mr τ t j = τ 223 j) →
      Z X (rX12_times zN) mX12_times 190 [(2, 211), (0, t), (9, 0), (9, 0), (0, s), (9, 0), (9, 0), (0, (i : Int)), (9, 0), (9, 0), (9, 0), (9, 0), (9, 0)] [] zN τ (zQv T) := by
    intro s hs l
    induction l with
    | zero =>
      intro i τ hi ho hf hM hd he hr
      have : i = 16 := by omega
      subst this
      have hv : mv τ t = P := by rw [← he]; exact dv_congr (fun j j0 j1 => hr j j0 j1)
      have hmt : MF τ t := mf_of (fun j j0 j1 => by rw [hr j j0 (by omega)]; exact hd j j0 (by omega)) (by omega) (by omega)
      have hN' : NM τ (fu v t P) := ⟨hf, fun k k0 k1 => by
        by_cases hk : k = t
        · subst hk; rw [fu_s]; exact ⟨hmt, hv⟩
        · rw [fu_n _ _ hk]; exact hM k k0 k1 hk⟩
      refine bk_X12_times_190 ⟨by decide, fun _ => ⟨by omega, fun w => ?_, fun w => ?_⟩, fun w => absurd (by decide) w⟩
      · rcases hs with q | q
        · rw [← q.2] at hN'; exact h τ ho hN'
        · omega
      · rcases hs with q | q
        · omega
        · refine c_turn t0 t1 hN' (by rw [fu_s]; omega) (fun σ4 o4 n4 => h σ4 (ho.trans o4) (n4.congr (fun k k0 k1 => ?_)))
          rw [fu_s]
          by_cases hk : k = t
          · subst hk; rw [fu_s, fu_s, q.2]
          · rw [fu_n _ _ hk, fu_n _ _ hk, fu_n _ _ hk]
    | succ l ih =>
      intro i τ hi ho hf hM hd he hr
      refine bk_X12_times_190 ⟨by constructor <;> omega, fun w => absurd w (by omega), fun _ => ⟨hf, by omega, by omega, by omega, by omega, ?_⟩⟩
      obtain ⟨υ, hυ⟩ : ∃ υ : ZM, υ = z_up τ 212 (16 * t + i) (τ 223 i) := ⟨_, rfl⟩
      rw [← hυ]
      have e223 : υ 223 = τ 223 := by rw [hυ]; exact z_up_far _ _ _ (by decide)
      have oK : OnK t τ υ := by rw [hυ]; exact OnK.rfl'.up (by omega) (by omega)
      refine ih (i + 1) υ (by omega) (ho.trans (Mo.ofK oK)) (oK.fix hf) (fun k k0 k1 hk => ?_) (by rw [e223]; exact hd) (by rw [e223]; exact he) (fun j j0 j1 => ?_)
      · rw [oK.val hk]; exact ⟨oK.mf hk (hM k k0 k1 hk).1, (hM k k0 k1 hk).2⟩
      · rw [e223, hυ, mr_up]
        by_cases hj : j = i
        · rw [hj, fu_s]
        · rw [fu_n _ _ hj]; exact hr j j0 (by omega)
  -- the rows of the two numbers stand; nothing but row 223 changes
  have mid : ∀ (s : Int), (s = 0 ∧ v a * v b = P ∨ s = 1 ∧ v a * v b = -P) → ∀ τ0 : ZM, Mo σ τ0 → NM τ0 v → dg (τ0 221) 16 → dg (τ0 222) 16 → dv (τ0 221) 16 = (v a).natAbs → dv (τ0 222) 16 = (v b).natAbs →
      Z X (rX12_times zN) mX12_times 41 [(2, 211), (0, t), (9, 0), (9, 0), (0, s), (0, 0), (9, 0), (9, 0), (9, 0), (9, 0), (9, 0), (9, 0), (9, 0)] [] zN τ0 (zQv T) := by
    intro s hs τ0 ho0 hN0 dl dr vl vr
    obtain ⟨L, hL⟩ : ∃ L : Int → Int, L = τ0 221 := ⟨_, rfl⟩
    obtain ⟨R, hR⟩ : ∃ R : Int → Int, R = τ0 222 := ⟨_, rfl⟩
    have keep : ∀ τ : ZM, OnR 223 τ0 τ → Mo σ τ ∧ NM τ v ∧ τ 221 = L ∧ τ 222 = R := fun τ o => ⟨ho0.trans (fun c c1 c2 c3 c4 => o.row c4), hN0.row (o.fix21 la_223 hN0.1) (o.row (by decide)), by rw [hL]; exact o.row (by decide), by rw [hR]; exact o.row (by decide)⟩
    rw [← hL] at dl vl
    rw [← hR] at dr vr
    obtain ⟨RR, hRR⟩ : ∃ RR : Int, RR = dv R 16 := ⟨_, rfl⟩
    have RR0 : 0 ≤ RR := by rw [hRR]; exact (dv_rng dr).1
    have hPL : P = dv L 16 * RR := by rw [hP, vl, hRR, vr]
    have tot : ∀ i : Nat, i ≤ 16 → dv L i * RR < pw 16 := fun i hi => by
      have := Int.mul_le_mul_of_nonneg_right (dv_mono dl hi) RR0
      omega
    -- the rows of the product
    have rows : ∀ (n0 m0 : Nat), n0 ≤ 16 → m0 ≤ 16 → (∀ j : Int, n0 ≤ j → j < 16 → L j = 0) → (∀ j : Int, m0 ≤ j → j < 16 → R j = 0) → ∀ (l i : Nat) (τ : ZM), i + l = n0 → OnR 223 τ0 τ → dg (τ 223) 16 → dv (τ 223) 16 = dv L i * RR →
        Z X (rX12_times zN) mX12_times 83 [(2, 211), (0, t), (9, 0), (9, 0), (0, s), (0, (n0 : Int)), (0, (m0 : Int)), (0, (i : Int)), (9, 0), (9, 0), (9, 0), (9, 0), (9, 0)] [] zN τ (zQv T) := by
      intro n0 m0 hn0 hm0 zL zR l
      induction l with
      | zero =>
        intro i τ hi ho hd he
        refine bk_X12_times_83 ⟨by constructor <;> omega, by constructor <;> omega, fun _ => ?_, fun w => absurd (by omega) w⟩
        have k := keep τ ho
        refine fin s hs 16 0 τ (by decide) k.1 k.2.1.1 (fun k' k0 k1 _ => k.2.1.2 k' k0 k1) hd ?_ (fun j j0 j1 => absurd j1 (by omega))
        rw [he, hPL, show i = n0 by omega, dv_zero hn0 zL]
      | succ l ih =>
        intro i τ hi ho hd he
        have i16 : i < 16 := by omega
        have li := dl i (by omega) (by omega)
        have inner : ∀ (m j : Nat) (o : Int) (υ : ZM), i + j + m = 16 → 0 ≤ o → o < 1000000000 → OnR 223 τ0 υ → dg (υ 223) 16 → dv (υ 223) 16 + o * pw (i + j) + L i * pw i * (RR - dv R j) = dv L (i + 1) * RR →
            Z X (rX12_times zN) mX12_times 96 [(2, 211), (0, t), (9, 0), (9, 0), (0, s), (0, (n0 : Int)), (0, (m0 : Int)), (0, (i : Int)), (1, o), (9, 0), (0, (j : Int)), (9, 0), (9, 0)] [] zN υ (zQv T) := by
          intro m
          induction m with
          | zero =>
            intro j o υ hj o0 o1 hυ hd2 he2
            refine bk_X12_times_96 ⟨by constructor <;> omega, fun _ => ?_, fun w => absurd (by omega) w⟩
            refine ih (i + 1) υ (by omega) hυ hd2 ?_
            have sp := dv_split R j (16 - j)
            rw [show j + (16 - j) = 16 by omega, ← hRR] at sp
            have q0 : 0 ≤ dv (sh R j) (16 - j) := (dv_rng (fun k k0 k1 => dr _ (by omega) (by omega))).1
            have e1 : L i * pw i * (RR - dv R j) = L i * dv (sh R j) (16 - j) * pw 16 := by
              rw [sp, show (16 : Nat) = i + j by omega, pw_add]
              grind
            rw [e1, show i + j = 16 by omega] at he2
            exact tm_end o0 li.1 q0 (dv_rng hd2).1 (pw_pos 16) he2 (tot (i + 1) (by omega))
          | succ m ihm =>
            intro j o υ hj o0 o1 hυ hd2 he2
            have k := keep υ hυ
            have rj := dr j (by omega) (by omega)
            have gj := hd2 ((i : Int) + j) (by omega) (by omega)
            have body : Z X (rX12_times zN) mX12_times 120 [(2, 211), (0, t), (9, 0), (9, 0), (0, s), (0, (n0 : Int)), (0, (m0 : Int)), (0, (i : Int)), (1, o), (9, 0), (0, (j : Int)), (9, 0), (9, 0)] [] zN υ (zQv T) := by
              have vr := tm_r gj.1 gj.2 li.1 li.2 rj.1 rj.2 o0 o1
              obtain ⟨x, hx⟩ : ∃ x : Int, x = υ 223 ((i : Int) + j) + L i * R j + o := ⟨_, rfl⟩
              rw [← hx] at vr
              refine bk_X12_times_120 ⟨k.2.1.1, by omega, by omega, by omega, by omega, by omega, by omega, ?_⟩
              rw [k.2.2.1, k.2.2.2, ← hx]
              refine ⟨by constructor <;> omega, ?_⟩
              rw [Int.tdiv_eq_ediv_of_nonneg vr.1, Int.tmod_eq_emod_of_nonneg vr.1]
              have m0' := Int.emod_nonneg x (show (1000000000 : Int) ≠ 0 by decide)
              have m1' := Int.emod_lt_of_pos x (show (0 : Int) < 1000000000 by decide)
              have em := Int.mul_ediv_add_emod x 1000000000
              refine ihm (j + 1) (x / 1000000000) _ (by omega) (by omega) (by omega) hυ.up (by rw [z_up_row]; exact dg_fu hd2 m0' m1') ?_
              rw [z_up_row, show (i : Int) + j = ((i + j : Nat) : Int) by omega, dv_fu (by omega), dv_s R j, ← he2, show i + (j + 1) = i + j + 1 by omega, pw_s (i + j), pw_add i j]
              have := tm_step (g := dv (υ 223) 16) (gi := υ 223 ((i + j : Nat) : Int)) (A := pw i) (B := pw j) (C := RR - dv R j) (show x = υ 223 ((i + j : Nat) : Int) + L i * R j + o by rw [hx]; rfl) em
              rw [← this, show RR - (dv R j + R j * pw j) = RR - dv R j - R j * pw j by omega]
            refine bk_X12_times_96 ⟨by constructor <;> omega, fun w => absurd w (by omega), fun _ => ⟨by constructor <;> omega, by constructor <;> omega, fun _ => body, fun w => ⟨by constructor <;> omega, fun w2 => ?_, fun _ => body⟩⟩⟩
            refine ih (i + 1) υ (by omega) hυ hd2 ?_
            have e1 : RR = dv R j := by rw [hRR]; exact dv_zero (by omega) (fun j' k0 k1 => zR j' (by omega) k1)
            rw [← e1, Int.sub_self, Int.mul_zero, show o = 0 by omega, Int.zero_mul] at he2
            omega
        refine bk_X12_times_83 ⟨by constructor <;> omega, by constructor <;> omega, fun w => absurd w (by omega), fun _ => ?_⟩
        refine inner (16 - i) 0 0 τ (by omega) (by decide) (by decide) ho hd ?_
        rw [he, dv_s, show dv R 0 = 0 from rfl, Int.add_mul, Int.sub_zero]
        omega
    have zero : ∀ (l i : Nat) (τ : ZM), i + l = 16 → OnR 223 τ0 τ → (∀ j : Int, 0 ≤ j → j < i → τ 223 j = 0) →
        Z X (rX12_times zN) mX12_times 41 [(2, 211), (0, t), (9, 0), (9, 0), (0, s), (0, (i : Int)), (9, 0), (9, 0), (9, 0), (9, 0), (9, 0), (9, 0), (9, 0)] [] zN τ (zQv T) := by
      intro l
      induction l with
      | zero =>
        intro i τ hi ho hz
        have : i = 16 := by omega
        subst this
        have k := keep τ ho
        refine bk_X12_times_41 ⟨by decide, fun _ => ⟨k.2.1.1, ?_⟩, fun w => absurd (by decide) w⟩
        refine c_length la_221 (by rw [k.2.2.1]; exact dl) (fun n0 hn0 zL _ => ⟨k.2.1.1, c_length la_222 (by rw [k.2.2.2]; exact dr) (fun m0 hm0 zR _ => ?_)⟩)
        rw [k.2.2.1] at zL
        rw [k.2.2.2] at zR
        refine rows n0 m0 hn0 hm0 zL zR n0 0 τ (by omega) ho (fun j j0 j1 => by rw [hz j j0 j1]; decide) ?_
        rw [dv_zero (m := 0) (by decide) (fun j j0 j1 => hz j j0 j1), show dv L 0 = 0 from rfl, Int.zero_mul]
        rfl
      | succ l ih =>
        intro i τ hi ho hz
        have k := keep τ ho
        refine bk_X12_times_41 ⟨by constructor <;> omega, fun w => absurd w (by omega), fun _ => ⟨k.2.1.1, by omega, by omega, ?_⟩⟩
        refine ih (i + 1) _ (by omega) ho.up (fun j j0 j1 => ?_)
        rw [z_up_row]
        by_cases hj : j = i
        · rw [hj, fu_s]
        · rw [fu_n _ _ hj]; exact hz j j0 (by omega)
    exact zero 16 0 τ0 (by decide) OnR.rfl' (fun j j0 j1 => absurd j1 (by omega))
  have sgn : ∀ s : Int, (s = 0 ∧ v a * v b = P ∨ s = 1 ∧ v a * v b = -P) → Fix σ ∧ ZC X (rX12_bare zN) mX12_bare [(2, 211), (0, a), (2, 221)] zN σ (zQv (fun σ7 => (Fix σ7) ∧ ZC X (rX12_bare zN) mX12_bare [(2, 211), (0, b), (2, 222)] zN σ7 (zQv (fun σ10 => Z X (rX12_times zN) mX12_times 41 [(2, 211), (0, t), (9, 0), (9, 0), (0, s), (0, 0), (9, 0), (9, 0), (9, 0), (9, 0), (9, 0), (9, 0), (9, 0)] [] zN σ10 (zQv T))))) := by
    intro s hs
    refine ⟨hN.1, c_bare a0 a1 la_221 (by decide) hN ha (fun σ7 o7 n7 d7 v7 => ⟨n7.1, c_bare b0 b1 la_222 (by decide) n7 hb (fun σ10 o10 n10 d10 v10 => ?_)⟩)⟩
    refine mid s hs σ10 (fun c c1 c2 c3 c4 => by rw [o10 c c1 c3, o7 c c1 c2]) n10 ?_ d10 ?_ v10
    · rw [o10 221 (by decide) (by decide)]; exact d7
    · rw [o10 221 (by decide) (by decide)]; exact v7
  refine bk_X12_times (c_isBelow a0 a1 hN.1 hma.1 (c_isBelow b0 b1 hN.1 hmb.1 ⟨fun w => sgn 0 (Or.inl ⟨rfl, ?_⟩), fun w => sgn 1 (Or.inr ⟨rfl, ?_⟩)⟩))
  all_goals
    rw [hma.2, hmb.2] at w
    rw [hP]
    rcases Int.lt_or_le (v a) 0 with q1 | q1 <;> rcases Int.lt_or_le (v b) 0 with q2 | q2
  · rw [show ((v a).natAbs : Int) = -v a by omega, show ((v b).natAbs : Int) = -v b by omega, Int.neg_mul_neg]
  · rw [decide_eq_true q1, decide_eq_false (by omega)] at w; cases w
  · rw [decide_eq_false (by omega), decide_eq_true q2] at w; cases w
  · rw [show ((v a).natAbs : Int) = v a by omega, show ((v b).natAbs : Int) = v b by omega]
  · rw [decide_eq_true q1, decide_eq_true q2] at w; exact absurd rfl w
  · rw [show ((v a).natAbs : Int) = -v a by omega, show ((v b).natAbs : Int) = v b by omega, Int.neg_mul, Int.neg_neg]
  · rw [show ((v a).natAbs : Int) = v a by omega, show ((v b).natAbs : Int) = -v b by omega, Int.mul_neg, Int.neg_neg]
  · rw [decide_eq_false (by omega), decide_eq_false (by omega)] at w; exact absurd rfl w
