theorem c_parts {X : ZS} {σ : ZM} {T : ZM → Prop} {v : Int → Int} {a b : Int} (a0 : 0 ≤ a) (a1 : a < 132) (b0 : 0 ≤ b) (b1 : b < 132) (hN : NM σ v) (ha : -pw 15 < v a) (hb : -pw 15 < v b) (hbz : v b ≠ 0)
    (h : ∀ σ', Mo σ σ' → NM σ' (fu v a (Int.tdiv (v a) (v b))) → T σ') : ZC X (rX12_parts zN) mX12_parts [(2, 211), (0, a), (0, b)] zN σ (zQv T) := by
  have hma := hN.2 a a0 a1
  have hmb := hN.2 b b0 b1
  have ra := hN.rng a0 a1
  obtain ⟨L0, hL0⟩ : ∃ L0 : Int, L0 = ((v a).natAbs : Int) := ⟨_, rfl⟩
  obtain ⟨RR, hRR⟩ : ∃ RR : Int, RR = ((v b).natAbs : Int) := ⟨_, rfl⟩
  have hRp : 0 < RR := by omega
  have hL1 : L0 < pw 15 := by omega
  have p16 : pw 16 = pw 15 * 1000000000 := pw_s 15
  have pp := pw_pos 15
  obtain ⟨Q, hQ⟩ : ∃ Q : Int, Q = L0 / RR := ⟨_, rfl⟩
  have Q0 : 0 ≤ Q := by rw [hQ]; exact Int.ediv_nonneg (by omega) (by omega)
  have Q1 : Q ≤ L0 := by rw [hQ]; exact Int.ediv_le_self _ (by omega)
  -- the end: the quotient into its place, and its sign
  have fin : ∀ (s : Int), (s = 0 ∧ Int.tdiv (v a) (v b) = Q ∨ s = 1 ∧ Int.tdiv (v a) (v b) = -Q) → ∀ (l i : Nat) (τ : ZM), i + l = 16 → Mo σ τ → Fix τ → (∀ k : Int, 0 ≤ k → k < 132 → k ≠ a → MF τ k ∧ mv τ k = v k) → dg (τ 223) 16 → dv (τ 223) 16 = Q → (∀ j : Int, 0 ≤ j → j < i → mr τ a j = τ 223 j) →
      Z X (rX12_parts zN) mX12_parts 266 [(2, 211), (0, a), (9, 0), (0, s), (9, 0), (9, 0), (0, (i : Int)), (9, 0), (9, 0), (9, 0), (9, 0), (9, 0), (9, 0), (9, 0), (9, 0), (9, 0)] [] zN τ (zQv T) := by
    intro s hs l
    induction l with
    | zero =>
      intro i τ hi ho hf hM hd he hr
      have : i = 16 := by omega
      subst this
      have hv : mv τ a = Q := by rw [← he]; exact dv_congr (fun j j0 j1 => hr j j0 j1)
      have hmt : MF τ a := mf_of (fun j j0 j1 => by rw [hr j j0 (by omega)]; exact hd j j0 (by omega)) (by omega) (by omega)
      have hN' : NM τ (fu v a Q) := ⟨hf, fun k k0 k1 => by
        by_cases hk : k = a
        · subst hk; rw [fu_s]; exact ⟨hmt, hv⟩
        · rw [fu_n _ _ hk]; exact hM k k0 k1 hk⟩
      refine bk_X12_parts_266 ⟨by decide, fun _ => ⟨by omega, fun w => ?_, fun w => ?_⟩, fun w => absurd (by decide) w⟩
      · rcases hs with q | q
        · rw [← q.2] at hN'; exact h τ ho hN'
        · omega
      · rcases hs with q | q
        · omega
        · refine c_turn a0 a1 hN' (by rw [fu_s]; omega) (fun σ4 o4 n4 => h σ4 (ho.trans o4) (n4.congr (fun k k0 k1 => ?_)))
          rw [fu_s]
          by_cases hk : k = a
          · subst hk; rw [fu_s, fu_s, q.2]
          · rw [fu_n _ _ hk, fu_n _ _ hk, fu_n _ _ hk]
    | succ l ih =>
      intro i τ hi ho hf hM hd he hr
      refine bk_X12_parts_266 ⟨by constructor <;> omega, fun w => absurd w (by omega), fun _ => ⟨hf, by omega, by omega, by omega, by omega, ?_⟩⟩
      obtain ⟨υ, hυ⟩ : ∃ υ : ZM, υ = z_up τ 212 (16 * a + i) (τ 223 i) := ⟨_, rfl⟩
      rw [← hυ]
      have e223 : υ 223 = τ 223 := by rw [hυ]; exact z_up_far _ _ _ (by decide)
      have oK : OnK a τ υ := by rw [hυ]; exact OnK.rfl'.up (by omega) (by omega)
      refine ih (i + 1) υ (by omega) (ho.trans (Mo.ofK oK)) (oK.fix hf) (fun k k0 k1 hk => ?_) (by rw [e223]; exact hd) (by rw [e223]; exact he) (fun j j0 j1 => ?_)
      · rw [oK.val hk]; exact ⟨oK.mf hk (hM k k0 k1 hk).1, (hM k k0 k1 hk).2⟩
      · rw [e223, hυ, mr_up]
        by_cases hj : j = i
        · rw [hj, fu_s]
        · rw [fu_n _ _ hj]; exact hr j j0 (by omega)
  have mid : ∀ (s : Int), (s = 0 ∧ Int.tdiv (v a) (v b) = Q ∨ s = 1 ∧ Int.tdiv (v a) (v b) = -Q) → ∀ (τ0 : ZM) (j0 i0 : Nat), Mo σ τ0 → NM τ0 v → dg (τ0 221) 16 → dg (τ0 222) 16 → dv (τ0 221) 16 = L0 → dv (τ0 222) 16 = RR →
      j0 ≤ 16 → (∀ j : Int, j0 ≤ j → j < 16 → τ0 222 j = 0) → (0 < j0 → τ0 222 ((j0 : Int) - 1) ≠ 0) → i0 ≤ 16 → (∀ j : Int, i0 ≤ j → j < 16 → τ0 221 j = 0) →
      Z X (rX12_parts zN) mX12_parts 66 [(2, 211), (0, a), (9, 0), (0, s), (0, (j0 : Int)), (0, (i0 : Int)), (0, 0), (9, 0), (9, 0), (9, 0), (9, 0), (9, 0), (9, 0), (9, 0), (9, 0), (9, 0)] [] zN τ0 (zQv T) := by
    intro s hs τ0 j0 i0 ho0 hN0 dl dr vl vr hj16 zR nR hi16 zL
    obtain ⟨R, hR⟩ : ∃ R : Int → Int, R = τ0 222 := ⟨_, rfl⟩
    have keep : ∀ τ : ZM, (∀ c : Int, c ≠ 221 → c ≠ 223 → τ c = τ0 c) → Mo σ τ ∧ NM τ v ∧ τ 222 = R := fun τ o => by
      have hfx : Fix τ := by
        intro c k d hd
        by_cases c1 : c = 221
        · rw [c1, la_221] at hd
          rw [z_off_arr (show 20 ≤ 21 by decide)] at hd
          cases hd
        · by_cases c2 : c = 223
          · rw [c2, la_223] at hd
            rw [z_off_arr (show 20 ≤ 21 by decide)] at hd
            cases hd
          · rw [o c c1 c2]; exact hN0.1 c k d hd
      exact ⟨ho0.trans (fun c c1 c2 c3 c4 => o c c2 c4), hN0.row hfx (o 212 (by decide) (by decide)), by rw [hR]; exact o 222 (by decide) (by decide)⟩
    rw [← hR] at dr vr zR nR
    have hRz : ∀ j : Nat, j0 ≤ j → j ≤ 16 → RR = dv R j := fun j h1 h2 => by rw [← vr]; exact dv_zero h2 (fun i i0 i1 => zR i (by omega) i1)
    have hj1 : 1 ≤ j0 := by
      apply Classical.byContradiction
      intro w
      have := hRz 0 (by omega) (by decide)
      rw [show dv R 0 = 0 from rfl] at this
      omega
    have hRlow : pw (j0 - 1) ≤ RR := by
      rw [← vr]
      refine dv_pos dr (by omega) ?_
      have := nR (by omega)
      rw [show (((j0 - 1 : Nat)) : Int) = (j0 : Int) - 1 by omega]; exact this
    have hLhi : L0 < pw i0 := by
      rw [← vl, dv_zero hi16 zL]
      exact (dv_rng (dl.mono hi16)).2
    have main : ∀ (k : Nat) (x : Int) (τ : ZM), (x = (k : Int) - 1 ∨ k = 0 ∧ x < 0) → r32 x → k + j0 ≤ 17 → (∀ c : Int, c ≠ 221 → c ≠ 223 → τ c = τ0 c) → dg (τ 221) 16 → dg (τ 223) 16 → (∀ j : Int, 0 ≤ j → j < k → τ 223 j = 0) → dv (τ 223) 16 * RR + dv (τ 221) 16 = L0 → dv (τ 221) 16 < RR * pw k →
        Z X (rX12_parts zN) mX12_parts 94 [(2, 211), (0, a), (9, 0), (0, s), (0, (j0 : Int)), (9, 0), (0, x), (9, 0), (9, 0), (9, 0), (9, 0), (9, 0), (9, 0), (9, 0), (9, 0), (9, 0)] [] zN τ (zQv T) := by
      intro k
      induction k with
      | zero =>
        intro x τ hx hxr hkj ho d1 d2 hz he hlt
        have kp := keep τ ho
        refine bk_X12_parts_94 ⟨hxr, fun _ => ?_, fun w => absurd (by omega) w⟩
        rw [pw_0, Int.mul_one] at hlt
        have r0 := (dv_rng d1).1
        refine fin s hs 16 0 τ (by decide) kp.1 kp.2.1.1 (fun k' k0 k1 _ => kp.2.1.2 k' k0 k1) d2 ?_ (fun j j0 j1 => absurd j1 (by omega))
        rw [hQ]
        exact (z_ediv_u hRp (by rw [Int.mul_comm]; omega) (by rw [Int.mul_comm]; omega)).symm
      | succ k ih =>
        intro x τ hx hxr hkj ho d1 d2 hz he hlt
        have hxk : x = k := by omega
        subst hxk
        have kp := keep τ ho
        obtain ⟨W, hW⟩ : ∃ W : Int → Int, W = sh (τ 221) k := ⟨_, rfl⟩
        have dW : dg W (16 - k) := fun j k0 k1 => by rw [hW]; exact d1 _ (by omega) (by omega)
        have spl := dv_split (τ 221) k (16 - k)
        rw [show k + (16 - k) = 16 by omega, ← hW] at spl
        obtain ⟨DW, hDW⟩ : ∃ DW : Int, DW = dv W (16 - k) := ⟨_, rfl⟩
        rw [← hDW] at spl
        have lo := dv_rng (d1.mono (show k ≤ 16 by omega))
        have hpk := pw_pos k
        have hDW1 : DW < RR * 1000000000 := by
          apply Classical.byContradiction
          intro w
          have w1 : pw k * (RR * 1000000000) ≤ pw k * DW := Int.mul_le_mul_of_nonneg_left (by omega) (by omega)
          have w2 : RR * pw (k + 1) = pw k * (RR * 1000000000) := by rw [pw_s k]; grind
          omega
        have q0 : τ 223 k = 0 := hz k (by omega) (by omega)
        -- behind the part g
        have goOn : ∀ (g : Int) (υ : ZM), 0 ≤ g → g < 1000000000 → g * RR ≤ DW → DW < (g + 1) * RR → (∀ c : Int, c ≠ 221 → c ≠ 223 → υ c = τ0 c) → υ 223 = fu (τ 223) k g → dg (υ 221) 16 → (∀ j : Int, 0 ≤ j → j < k → υ 221 j = τ 221 j) → dv (sh (υ 221) k) (16 - k) = DW - g * RR →
            Z X (rX12_parts zN) mX12_parts 94 [(2, 211), (0, a), (9, 0), (0, s), (0, (j0 : Int)), (9, 0), (0, (k : Int) + -1), (9, 0), (9, 0), (9, 0), (9, 0), (9, 0), (9, 0), (9, 0), (9, 0), (9, 0)] [] zN υ (zQv T) := by
          intro g υ g0 g1 hg0 hg1 hou h223 d3 hlow hwin
          have sp2 := dv_split (υ 221) k (16 - k)
          rw [show k + (16 - k) = 16 by omega, hwin, dv_congr (g := τ 221) (fun j k0 k1 => hlow j k0 k1)] at sp2
          have eg : (g + 1) * RR = g * RR + RR := by rw [Int.add_mul, Int.one_mul]
          refine ih _ υ (Or.inl (by omega)) (by constructor <;> omega) (by omega) hou d3 (by rw [h223]; exact dg_fu d2 g0 g1) (fun j k0 k1 => by rw [h223, fu_n _ _ (by omega)]; exact hz j k0 (by omega)) ?_ ?_
          · rw [h223, dv_fu (by omega), q0, sp2, ← he, spl]
            grind
          · rw [sp2]
            have : pw k * (DW - g * RR + 1) ≤ pw k * RR := Int.mul_le_mul_of_nonneg_left (by omega) (by omega)
            rw [Int.mul_add, Int.mul_one] at this
            rw [Int.mul_comm RR]
            omega
        -- the subtraction
        have sub : ∀ (g : Int), 0 ≤ g → g < 1000000000 → g * RR ≤ DW → DW < (g + 1) * RR → ∀ (l j : Nat) (o : Int) (υ : ZM), k + j + l = 16 → 0 ≤ o → o ≤ 1000000000 → (∀ c : Int, c ≠ 221 → c ≠ 223 → υ c = τ0 c) → υ 223 = fu (τ 223) k g → dg (υ 221) 16 → (∀ j : Int, 0 ≤ j → j < k → υ 221 j = τ 221 j) → (∀ i : Int, j ≤ i → sh (υ 221) k i = W i) → dv (sh (υ 221) k) j = dv W j - g * dv R j + o * pw j →
            Z X (rX12_parts zN) mX12_parts 172 [(2, 211), (0, a), (9, 0), (0, s), (0, (j0 : Int)), (9, 0), (0, (k : Int)), (1, g), (9, 0), (9, 0), (9, 0), (1, o), (9, 0), (0, (j : Int)), (9, 0), (9, 0)] [] zN υ (zQv T) := by
          intro g g0 g1 hg0 hg1 l
          induction l with
          | zero =>
            intro j o υ hj o0 o1 hou h223 d3 hlow hhi hwin
            refine bk_X12_parts_172 ⟨by constructor <;> omega, fun _ => ?_, fun w => absurd (by omega) w⟩
            have hjk : j = 16 - k := by omega
            have rw3 := dv_rng (f := sh (υ 221) k) (n := j) (fun i i0 i1 => d3 _ (by omega) (by omega))
            have e1 : dv W j = DW := by rw [hDW, hjk]
            have e2 := hRz j (by omega) (by omega)
            rw [e1, ← e2] at hwin
            have oz := z_mul0 (p := pw j) o0 (by omega) (pw_pos j)
            rw [oz, Int.zero_mul, Int.add_zero] at hwin
            exact goOn g υ g0 g1 hg0 hg1 hou h223 d3 hlow (by rw [← hjk]; exact hwin)
          | succ l ihl =>
            intro j o υ hj o0 o1 hou h223 d3 hlow hhi hwin
            have kυ := keep υ hou
            have wj := dW j (by omega) (by omega)
            have rj := dr j (by omega) (by omega)
            have eW : υ 221 ((j : Int) + k) = W j := by
              have := hhi j (Int.le_refl _)
              unfold sh at this
              rw [← this]; congr 1; omega
            have pv := pt_v wj.1 wj.2 g0 g1 rj.1 rj.2 o0 o1
            obtain ⟨x, hx⟩ : ∃ x : Int, x = W j - g * R j - o := ⟨_, rfl⟩
            rw [← hx] at pv
            have body : Z X (rX12_parts zN) mX12_parts 196 [(2, 211), (0, a), (9, 0), (0, s), (0, (j0 : Int)), (9, 0), (0, (k : Int)), (1, g), (9, 0), (9, 0), (9, 0), (1, o), (9, 0), (0, (j : Int)), (9, 0), (9, 0)] [] zN υ (zQv T) := by
              refine bk_X12_parts_196 ⟨kυ.2.1.1, by omega, by omega, by omega, by omega, ?_⟩
              rw [eW, kυ.2.2, ← hx]
              refine ⟨by constructor <;> omega, ?_⟩
              have m0' := Int.emod_nonneg x (show (1000000000 : Int) ≠ 0 by decide)
              have m1' := Int.emod_lt_of_pos x (show (0 : Int) < 1000000000 by decide)
              have e223 : z_up υ 221 ((j : Int) + k) (x % 1000000000) 223 = υ 223 := z_up_far _ _ _ (by decide)
              have erow : sh (fu (υ 221) ((j : Int) + k) (x % 1000000000)) k = fu (sh (υ 221) k) j (x % 1000000000) := by
                rw [Int.add_comm]; exact sh_fu _ _ _ _
              refine ihl (j + 1) _ _ (by omega) pv.2.2.1 pv.2.2.2 (fun c c1 c2 => by rw [z_up_far _ _ _ c1]; exact hou c c1 c2) (by rw [e223]; exact h223) (by rw [z_up_row]; exact dg_fu d3 m0' m1') (fun i i0 i1 => by rw [z_up_row, fu_n _ _ (by omega)]; exact hlow i i0 i1) (fun i i0 => by rw [z_up_row, erow, fu_n _ _ (by omega)]; exact hhi i (by omega)) ?_
              rw [z_up_row, erow, dv_s (fu (sh (υ 221) k) j (x % 1000000000)) j, fu_s, dv_fu_out (Int.le_refl _), hwin, dv_s W j, dv_s R j, pw_s j]
              exact (pt_step (D := dv W j) (m := g) (Rj := dv R j) (r := R j) (o := o) (w := W j) (x := x) (P := pw j) hx).symm
            refine bk_X12_parts_172 ⟨by constructor <;> omega, fun w => absurd w (by omega), fun _ => ⟨by constructor <;> omega, by constructor <;> omega, fun _ => body, fun w => ⟨by constructor <;> omega, fun w2 => ?_, fun _ => body⟩⟩⟩
            refine goOn g υ g0 g1 hg0 hg1 hou h223 d3 hlow ?_
            have e2 := hRz j (by omega) (by omega)
            rw [w2, Int.zero_mul, Int.add_zero, ← e2] at hwin
            have s1 := dv_split (sh (υ 221) k) j (16 - k - j)
            have s2 := dv_split W j (16 - k - j)
            rw [show j + (16 - k - j) = 16 - k by omega] at s1 s2
            have s3 : dv (sh (sh (υ 221) k) j) (16 - k - j) = dv (sh W j) (16 - k - j) := dv_congr (fun i i0 i1 => hhi _ (by omega))
            rw [s1, s3, hwin, hDW, s2]
            omega
        -- the bisection
        have bis : ∀ (n : Nat) (lo hi : Int), hi - lo ≤ n → 0 ≤ lo → lo ≤ hi → hi ≤ 999999999 → lo * RR ≤ DW → DW < (hi + 1) * RR →
            Z X (rX12_parts zN) mX12_parts 107 [(2, 211), (0, a), (9, 0), (0, s), (0, (j0 : Int)), (9, 0), (0, (k : Int)), (1, lo), (9, 0), (1, hi), (9, 0), (9, 0), (9, 0), (9, 0), (9, 0), (9, 0)] [] zN τ (zQv T) := by
          have stop : ∀ lo hi : Int, hi = lo → 0 ≤ lo → hi ≤ 999999999 → lo * RR ≤ DW → DW < (hi + 1) * RR →
              Z X (rX12_parts zN) mX12_parts 107 [(2, 211), (0, a), (9, 0), (0, s), (0, (j0 : Int)), (9, 0), (0, (k : Int)), (1, lo), (9, 0), (1, hi), (9, 0), (9, 0), (9, 0), (9, 0), (9, 0), (9, 0)] [] zN τ (zQv T) := by
            intro lo hi hlh l0 h9 e1 e2
            subst hlh
            refine bk_X12_parts_107 ⟨by constructor <;> omega, by constructor <;> omega, fun _ => ⟨kp.2.1.1, by omega, by omega, ?_⟩, fun w => absurd (Int.le_refl _) w⟩
            have e221 : z_up τ 223 k hi 221 = τ 221 := z_up_far _ _ _ (by decide)
            refine sub hi l0 (by omega) e1 e2 (16 - k) 0 0 _ (by omega) (by decide) (by decide) (fun c c1 c2 => by rw [z_up_far _ _ _ c2]; exact ho c c1 c2) (z_up_row _ _ _ _) (by rw [e221]; exact d1) (fun i _ _ => by rw [e221]) (fun i _ => by rw [e221, hW]) ?_
            show (0 : Int) = 0 - hi * 0 + 0 * 1
            omega
          intro n
          induction n with
          | zero => intro lo hi h1 h2 h3 h4 h5 h6; exact stop lo hi (by omega) h2 h4 h5 h6
          | succ n ihn =>
            intro lo hi h1 h2 h3 h4 h5 h6
            by_cases hlh : hi = lo
            · exact stop lo hi hlh h2 h4 h5 h6
            · obtain ⟨mid, hmid⟩ : ∃ mid : Int, mid = (lo + hi + 1) / 2 := ⟨_, rfl⟩
              refine bk_X12_parts_107 ⟨by constructor <;> omega, by constructor <;> omega, fun w => absurd w (by omega), fun _ => ⟨by constructor <;> omega, ?_⟩⟩
              rw [Int.tdiv_eq_ediv_of_nonneg (by omega), ← hmid]
              refine c_goesInto kp.2.1.1 (by omega) (by omega) (by omega) d1 (by rw [kp.2.2]; exact dr) (by rw [kp.2.2]; exact zR) ?_
              rw [kp.2.2, vr, ← hW, ← hDW]
              refine ⟨fun w => ?_, fun w => ?_⟩
              · have := of_decide_eq_false w
                exact ihn lo (mid - 1) (by omega) h2 (by omega) (by omega) h5 (by rw [Int.sub_add_cancel]; omega)
              · have := of_decide_eq_true w
                exact ihn mid hi (by omega) (by omega) (by omega) h4 this h6
        refine bk_X12_parts_94 ⟨hxr, fun w => absurd w (by omega), fun _ => ?_⟩
        refine bis 999999999 0 999999999 (by decide) (by decide) (by decide) (by decide) ?_ ?_
        · rw [Int.zero_mul, hDW]; exact (dv_rng dW).1
        · rw [Int.mul_comm]; exact hDW1
    have zero : ∀ (l i : Nat) (τ : ZM), i + l = 16 → (∀ c : Int, c ≠ 223 → τ c = τ0 c) → (∀ j : Int, 0 ≤ j → j < i → τ 223 j = 0) →
        Z X (rX12_parts zN) mX12_parts 66 [(2, 211), (0, a), (9, 0), (0, s), (0, (j0 : Int)), (0, (i0 : Int)), (0, (i : Int)), (9, 0), (9, 0), (9, 0), (9, 0), (9, 0), (9, 0), (9, 0), (9, 0), (9, 0)] [] zN τ (zQv T) := by
      intro l
      induction l with
      | zero =>
        intro i τ hi ho hz
        have : i = 16 := by omega
        subst this
        have e1 : τ 221 = τ0 221 := ho 221 (by decide)
        have hz0 : dv (τ 223) 16 = 0 := dv_zero (m := 0) (by decide) (fun j k0 k1 => hz j k0 k1)
        refine bk_X12_parts_66 ⟨by decide, fun _ => ?_, fun w => absurd (by decide) w⟩
        have go : ∀ k : Nat, k + j0 ≤ 17 → L0 < RR * pw k → ((i0 : Int) - j0 = (k : Int) - 1 ∨ k = 0 ∧ (i0 : Int) - j0 < 0) → Z X (rX12_parts zN) mX12_parts 94 [(2, 211), (0, a), (9, 0), (0, s), (0, (j0 : Int)), (9, 0), (0, (i0 : Int) - j0), (9, 0), (9, 0), (9, 0), (9, 0), (9, 0), (9, 0), (9, 0), (9, 0), (9, 0)] [] zN τ (zQv T) := by
          intro k hk1 hk2 hk3
          refine main k _ τ hk3 (by constructor <;> omega) hk1 (fun c c1 c2 => ho c c2) (by rw [e1]; exact dl) (fun j k0 k1 => by rw [hz j k0 k1]; decide) (fun j k0 k1 => hz j k0 (by omega)) ?_ ?_
          · rw [hz0, e1, vl]; omega
          · rw [e1, vl]; exact hk2
        rcases Nat.lt_or_ge i0 j0 with w | w
        · refine go 0 (by omega) ?_ (Or.inr ⟨rfl, by omega⟩)
          rw [pw_0, Int.mul_one]
          have := pw_mono (show i0 ≤ j0 - 1 by omega)
          omega
        · refine go (i0 - j0 + 1) (by omega) ?_ (Or.inl (by omega))
          have e2 : pw (j0 - 1) * pw (i0 - j0 + 1) ≤ RR * pw (i0 - j0 + 1) := Int.mul_le_mul_of_nonneg_right hRlow (Int.le_of_lt (pw_pos _))
          rw [← pw_add, show j0 - 1 + (i0 - j0 + 1) = i0 by omega] at e2
          omega
      | succ l ih =>
        intro i τ hi ho hz
        have kp := keep τ (fun c c1 c2 => ho c c2)
        refine bk_X12_parts_66 ⟨by constructor <;> omega, fun w => absurd w (by omega), fun _ => ⟨kp.2.1.1, by omega, by omega, ?_⟩⟩
        refine ih (i + 1) _ (by omega) (fun c c1 => by rw [z_up_far _ _ _ c1]; exact ho c c1) (fun j k0 k1 => ?_)
        rw [z_up_row]
        by_cases hj : j = i
        · rw [hj, fu_s]
        · rw [fu_n _ _ hj]; exact hz j k0 (by omega)
    exact zero 16 0 τ0 (by decide) (fun _ _ => rfl) (fun j k0 k1 => absurd k1 (by omega))
  have sgn : ∀ s : Int, (s = 0 ∧ Int.tdiv (v a) (v b) = Q ∨ s = 1 ∧ Int.tdiv (v a) (v b) = -Q) → (Fix σ) ∧ ZC X (rX12_bare zN) mX12_bare [(2, 211), (0, a), (2, 221)] zN σ (zQv (fun σ7 => (Fix σ7) ∧ ZC X (rX12_bare zN) mX12_bare [(2, 211), (0, b), (2, 222)] zN σ7 (zQv (fun σ10 => (Fix σ10) ∧ ZC X (rX12_length zN) mX12_length [(2, 222)] zN σ10 (zQi (fun r12 σ13 => (Fix σ13) ∧ ZC X (rX12_length zN) mX12_length [(2, 221)] zN σ13 (zQi (fun r15 σ16 => Z X (rX12_parts zN) mX12_parts 66 [(2, 211), (0, a), (9, 0), (0, s), (0, r12), (0, r15), (0, 0), (9, 0), (9, 0), (9, 0), (9, 0), (9, 0), (9, 0), (9, 0), (9, 0), (9, 0)] [] zN σ16 (zQv T))))))))) := by
    intro s hs
    refine ⟨hN.1, c_bare a0 a1 la_221 (by decide) hN ha (fun σ7 o7 n7 d7 v7 => ⟨n7.1, c_bare b0 b1 la_222 (by decide) n7 hb (fun σ10 o10 n10 d10 v10 => ⟨n10.1, ?_⟩)⟩)⟩
    have e1 : σ10 221 = σ7 221 := o10 221 (by decide) (by decide)
    refine c_length la_222 d10 (fun j0 hj zR nR => ⟨n10.1, c_length la_221 (by rw [e1]; exact d7) (fun i0 hi zL nL => ?_)⟩)
    exact mid s hs σ10 j0 i0 (fun c c1 c2 c3 c4 => by rw [o10 c c1 c3, o7 c c1 c2]) n10 (by rw [e1]; exact d7) d10 (by rw [e1, v7, hL0]) (by rw [v10, hRR]) hj zR nR hi zL
  have tq : ((v a < 0 ↔ v b < 0) ∨ v a = 0) → Int.tdiv (v a) (v b) = Q := by
    intro w
    rw [hQ, hL0, hRR]
    rcases Int.lt_or_le (v a) 0 with q1 | q1
    · have q2 : v b < 0 := by omega
      rw [show ((v a).natAbs : Int) = -v a by omega, show ((v b).natAbs : Int) = -v b by omega, ← Int.tdiv_eq_ediv_of_nonneg (by omega), Int.neg_tdiv, Int.tdiv_neg, Int.neg_neg]
    · rcases w with w | w
      · rw [show ((v a).natAbs : Int) = v a by omega, show ((v b).natAbs : Int) = v b by omega, Int.tdiv_eq_ediv_of_nonneg q1]
      · rw [w, Int.zero_tdiv]
        show (0 : Int) = 0 / _
        rw [Int.zero_ediv]
  have tn : ¬ (v a < 0 ↔ v b < 0) → Int.tdiv (v a) (v b) = -Q := by
    intro w
    rw [hQ, hL0, hRR]
    rcases Int.lt_or_le (v a) 0 with q1 | q1
    · have q2 : 0 < v b := by omega
      rw [show ((v a).natAbs : Int) = -v a by omega, show ((v b).natAbs : Int) = v b by omega, ← Int.tdiv_eq_ediv_of_nonneg (by omega), Int.neg_tdiv, Int.neg_neg]
    · have q2 : v b < 0 := by omega
      rw [show ((v a).natAbs : Int) = v a by omega, show ((v b).natAbs : Int) = -v b by omega, ← Int.tdiv_eq_ediv_of_nonneg (by omega), Int.tdiv_neg, Int.neg_neg]
  have zbd : ∀ p q : Prop, [Decidable p] → [Decidable q] → (zb (decide p) = zb (decide q) ↔ (p ↔ q)) := by
    intro p q _ _
    by_cases hp : p <;> by_cases hq : q <;> simp [hp, hq, zb]
  refine bk_X12_parts (c_isBelow a0 a1 hN.1 hma.1 (c_isBelow b0 b1 hN.1 hmb.1 ⟨fun w => sgn 0 (Or.inl ⟨rfl, ?_⟩), fun w => c_isZero a0 a1 hN.1 hma.1 ⟨fun w2 => sgn 0 (Or.inl ⟨rfl, ?_⟩), fun w2 => sgn 1 (Or.inr ⟨rfl, ?_⟩)⟩⟩))
  · rw [zbd, hma.2, hmb.2] at w
    exact tq (Or.inl w)
  · have := of_decide_eq_true w2
    rw [hma.2] at this
    exact tq (Or.inr this)
  · rw [zbd, hma.2, hmb.2] at w
    exact tn w
