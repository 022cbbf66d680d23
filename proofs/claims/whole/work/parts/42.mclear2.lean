/-- nothing but the model's numbers, their rows, rank, flips and rowOf has changed -/
def Mk (σ σ' : ZM) : Prop := ∀ c i : Int, c ≠ 212 → c ≠ 221 → c ≠ 222 → c ≠ 223 → c ≠ 224 → ¬ (c = 211 ∧ (i = 19 ∨ i = 20)) → σ' c i = σ c i
theorem Mk.rfl' {σ : ZM} : Mk σ σ := fun _ _ _ _ _ _ _ _ => rfl
theorem Mk.trans {σ σ1 σ2 : ZM} (h1 : Mk σ σ1) (h2 : Mk σ1 σ2) : Mk σ σ2 := fun c i a1 a2 a3 a4 a5 a6 => (h2 c i a1 a2 a3 a4 a5 a6).trans (h1 c i a1 a2 a3 a4 a5 a6)
theorem Mk.ofO {σ σ' : ZM} (h : Mo σ σ') : Mk σ σ' := fun c i a1 a2 a3 a4 _ _ => by rw [h c a1 a2 a3 a4]
theorem Mk.up {σ σ' : ZM} (h : Mk σ σ') {c i x : Int} (hc : c = 224 ∨ c = 211 ∧ (i = 19 ∨ i = 20)) : Mk σ (z_up σ' c i x) := fun d j a1 a2 a3 a4 a5 a6 => by
  rw [z_up_ne]
  · exact h d j a1 a2 a3 a4 a5 a6
  · omega
theorem NM.up {σ : ZM} {v : Int → Int} (h : NM σ v) {c i x : Int} (hf : Fix (z_up σ c i x)) (hc : c ≠ 212) : NM (z_up σ c i x) v := h.row hf (z_up_far _ _ _ (Ne.symm hc))
theorem fix_19 {σ : ZM} {x : Int} (h : Fix σ) : Fix (z_up σ 211 19 x) := h.upF la_211 19 (by decide +kernel)
theorem fix_20 {σ : ZM} {x : Int} (h : Fix σ) : Fix (z_up σ 211 20 x) := h.upF la_211 20 (by decide +kernel)
theorem fix_224 {σ : ZM} {i x : Int} (h : Fix σ) : Fix (z_up σ 224 i x) := h.upA la_224 (by decide)
theorem fa9 : fa 100000 9 < pw 6 := by unfold pw; decide +kernel
theorem m_clear {X : ZS} {σ : ZM} {T : ZM → Prop} {v : Int → Int} {n wd : Nat} {V : Nat → Nat → Int} (hn : n ≤ 9) (hw : n ≤ wd) (hw2 : wd ≤ 10) (h17 : σ 211 17 = n) (h18 : σ 211 18 = wd) (hN : NM σ v) (hv : ∀ i j : Nat, i < n → j < wd → v (20 + 10 * i + j) = V j i) (hA : ∀ j r : Nat, j < wd → r < n → -100000 ≤ V j r ∧ V j r ≤ 100000)
    (h0 : ∀ σ' v' (r : Nat), Mk σ σ' → NM σ' v' → (∀ a : Int, a ≠ 6 → a ≠ 7 → a ≠ 8 → a ≠ 9 → a ≠ 10 → ¬ (20 ≤ a ∧ a < 110) → v' a = v a) → σ' 211 19 = r → r < n → ¬ KF n V → T σ')
    (h1 : ∀ σ' v' (f : Nat), Mk σ σ' → NM σ' v' → (∀ a : Int, a ≠ 6 → a ≠ 7 → a ≠ 8 → a ≠ 9 → a ≠ 10 → ¬ (20 ≤ a ∧ a < 110) → v' a = v a) → σ' 211 19 = n → (∀ c : Nat, c < n → σ' 224 c = c) → KF n V → σ' 211 20 = f → f ≤ 9 → v' 8 ≠ 0 → v' 8 = sg f * dt n V → (-fa 100000 n ≤ v' 8 ∧ v' 8 ≤ fa 100000 n) → (∀ i j : Nat, i < n → j < wd → -fa 100000 n ≤ v' (20 + 10 * i + j) ∧ v' (20 + 10 * i + j) ≤ fa 100000 n) → (∀ j : Nat, j < wd → ∀ r : Nat, r < n → v' 8 * V j r = sm (fun l => v' (20 + 10 * l + j) * V l r) n) → T σ') :
    ZC X (rX12_clear zN) mX12_clear [(2, 211), (0, (n : Int))] zN σ (zQv T) := by
  have f9 : fa 100000 n < pw 6 := by
    have := fa_mono (A := 100000) (by decide) hn
    have := fa9
    omega
  have m17 : ∀ {τ : ZM}, Mk σ τ → τ 211 17 = n := fun {τ} o => by rw [o 211 17 (by decide) (by decide) (by decide) (by decide) (by decide) (by decide)]; exact h17
  have m18 : ∀ {τ : ZM}, Mk σ τ → τ 211 18 = wd := fun {τ} o => by rw [o 211 18 (by decide) (by decide) (by decide) (by decide) (by decide) (by decide)]; exact h18
  have sgs : ∀ f : Nat, sg f = 1 ∨ sg f = -1 := fun f => by unfold sg; split <;> omega
  have loop : ∀ (l c : Nat) (τ : ZM) (u : Int → Int) (b : Nat → Nat → Int) (f r : Nat), c + l = n → Mk σ τ → NM τ u → (∀ a : Int, a ≠ 6 → a ≠ 7 → a ≠ 8 → a ≠ 9 → a ≠ 10 → ¬ (20 ≤ a ∧ a < 110) → u a = v a) → τ 211 19 = r → τ 211 20 = f → f ≤ c → BS n V b (sg f) 0 0 wd (fun i j => u (20 + 10 * i + j)) (u 8) → bd n 100000 b → (r = c ∧ (∀ k, k < c → b k = V k) ∧ (∀ k : Nat, k < c → τ 224 k = k) ∨ r < c ∧ ¬ KF n V) →
      Z X (rX12_clear zN) mX12_clear 19 [(2, 211), (0, (n : Int)), (0, (c : Int)), (9, 0), (9, 0)] [] zN τ (zQv T) := by
    intro l
    induction l with
    | zero =>
      intro c τ u b f r hc ho hM hs hr hf hfc bs hb hcase
      have : c = n := by omega
      subst this
      refine bk_X12_clear_19 ⟨by constructor <;> omega, by constructor <;> omega, fun _ => ?_, fun q => absurd (Int.le_refl _) q⟩
      rcases hcase with q | q
      · have full := bs_full bs q.2.1
        exact h1 τ u f ho hM hs (by rw [hr, q.1]) q.2.2 full.1 hf (by omega) bs.2.2.1 full.2.1 (bs.bndD (by decide) hb) (fun i j hi hj => bs.bnd (by decide) hb hA (Nat.zero_le _) hi (Nat.zero_le _) hj) (fun j hj => full.2.2 j (Nat.zero_le _) hj)
      · exact h0 τ u r ho hM hs hr q.1 q.2
    | succ l ih =>
      intro c τ u b f r hc ho hM hs hr hf hfc bs hb hcase
      have hrc : r ≤ c := by omega
      have hcn : c < n := by omega
      refine bk_X12_clear_19 ⟨by constructor <;> omega, by constructor <;> omega, fun q => absurd q (by omega), fun _ => ⟨hM.1, by omega, by omega, ?_⟩⟩
      rw [hr]
      obtain ⟨τ0, hτ0⟩ : ∃ τ0 : ZM, τ0 = z_up τ 224 c (-1) := ⟨_, rfl⟩
      rw [← hτ0]
      have ho0 : Mk σ τ0 := by rw [hτ0]; exact ho.up (Or.inl rfl)
      have hM0 : NM τ0 u := by rw [hτ0]; exact hM.up (fix_224 hM.1) (by decide)
      have hr0 : τ0 211 19 = r := by rw [hτ0, z_up_far _ _ _ (by decide)]; exact hr
      have hf0 : τ0 211 20 = f := by rw [hτ0, z_up_far _ _ _ (by decide)]; exact hf
      have h224 : ∀ k : Nat, k < c → τ0 224 k = τ 224 k := fun k hk => by rw [hτ0, z_up_ne _ (Or.inr (by omega))]
      -- behind the swap: the pivot stands in row r
      have aft : ∀ (τ1 : ZM) (u1 : Int → Int) (b1 : Nat → Nat → Int) (f1 : Nat), Mk σ τ1 → NM τ1 u1 → (∀ a : Int, a ≠ 6 → a ≠ 7 → a ≠ 8 → a ≠ 9 → a ≠ 10 → ¬ (20 ≤ a ∧ a < 110) → u1 a = v a) → τ1 211 19 = r → τ1 211 20 = f1 → f1 ≤ c + 1 → (∀ k : Nat, k < c → τ1 224 k = τ0 224 k) → BS n V b1 (sg f1) 0 0 wd (fun i j => u1 (20 + 10 * i + j)) (u1 8) → bd n 100000 b1 → u1 (20 + 10 * r + c) ≠ 0 → (∀ k, k < r → b1 k = b k) →
          Z X (rX12_clear zN) mX12_clear 175 [(2, 211), (0, (n : Int)), (0, (c : Int)), (9, 0), (0, 0)] [] zN τ1 (zQv T) := by
        intro τ1 u1 b1 f1 ho1 hM1 hs1 hr1 hf1 hfc1 h2241 bs1 hb1 hp hbk
        have bnd : ∀ i j : Nat, i < n → j < wd → -fa 100000 n ≤ u1 (20 + 10 * i + j) ∧ u1 (20 + 10 * i + j) ≤ fa 100000 n := fun i j hi hj => bs1.bnd (by decide) hb1 hA (Nat.zero_le _) hi (Nat.zero_le _) hj
        have bD := bs1.bndD (by decide) hb1
        have rowsL : ∀ (m i : Nat) (υ : ZM) (z : Int → Int), i + m = n → Mo τ1 υ → NM υ z → (∀ a : Int, a ≠ 6 → a ≠ 7 → a ≠ 10 → ¬ (20 ≤ a ∧ a < 110) → z a = u1 a) → (∀ i' j : Nat, i' < n → j < wd → z (20 + 10 * i' + j) = if i' < i ∧ i' ≠ r then sg f1 * dt n (cu (cu b1 r (V c)) i' (V j)) else u1 (20 + 10 * i' + j)) →
            Z X (rX12_clear zN) mX12_clear 175 [(2, 211), (0, (n : Int)), (0, (c : Int)), (9, 0), (0, (i : Int))] [] zN υ (zQv T) := by
          intro m
          induction m with
          | zero =>
            intro i υ z hi ov hv2 hz1 hz2
            have hin : i = n := by omega
            subst hin
            have oυ : Mk σ υ := ho1.trans (Mk.ofO ov)
            refine bk_X12_clear_175 ⟨by constructor <;> omega, by rw [m17 oυ]; constructor <;> omega, fun _ => ?_, fun q => absurd (by rw [m17 oυ]; omega) q⟩
            refine m_cell ?_
            rw [ov.f, hr1]
            refine c_copy (by decide) (by decide) (by omega) (by omega) hv2 (fun υ2 o2 n2 => ⟨n2.1, by omega, by omega, ?_⟩)
            have e19 : υ2 211 19 = r := by rw [o2.f, ov.f]; exact hr1
            rw [e19]
            have zp : z (20 + 10 * r + c) = u1 (20 + 10 * r + c) := by rw [hz2 r c (by omega) (by omega), if_neg (by omega)]
            rw [zp] at n2
            have n3 : NM (z_up (z_up υ2 224 c r) 211 19 (r + 1)) (fu z 8 (u1 (20 + 10 * r + c))) := (n2.up (fix_224 n2.1) (by decide)).up (fix_19 (fix_224 n2.1)) (by decide)
            have zc : ∀ i' j : Nat, i' < i → j < wd → fu z 8 (u1 (20 + 10 * r + c)) (20 + 10 * i' + j) = z (20 + 10 * i' + j) := fun i' j hi' hj => fu_n _ _ (by omega)
            have bs2 := bs1.step (r := r) (c := c) (p' := 0) (q' := 0) (M' := fun i' j => fu z 8 (u1 (20 + 10 * r + c)) (20 + 10 * i' + j)) (Nat.zero_le _) (by omega) (Nat.zero_le _) (by omega) hp (Nat.le_refl _) (Nat.le_refl _) (fun i' j _ hi' hir _ hj => by
                show fu z 8 _ (20 + 10 * i' + j) * u1 8 = _
                rw [zc i' j hi' hj, hz2 i' j hi' hj, if_pos ⟨hi', hir⟩]
                exact (bs1.exact (Nat.zero_le _) (by omega) (Nat.zero_le _) hi' hir (Nat.zero_le _) (by omega) (Nat.zero_le _) hj).symm) (fun j _ _ hj => by
                show fu z 8 _ (20 + 10 * r + j) = _
                rw [zc r j (by omega) hj, hz2 r j (by omega) hj, if_neg (by omega)])
            refine ih (c + 1) _ _ (cu b1 r (V c)) f1 (r + 1) (by omega) (((oυ.trans (Mk.ofO o2)).up (Or.inl rfl)).up (Or.inr ⟨rfl, Or.inl rfl⟩)) n3 (fun a a1 a2 a3 a4 a5 a6 => by rw [fu_n _ _ a3, hz1 a a1 a2 a5 a6]; exact hs1 a a1 a2 a3 a4 a5 a6) (by rw [z_up_same]; rfl) (by rw [z_up_ne _ (Or.inr (by decide)), z_up_far _ _ _ (by decide), o2.f, ov.f]; exact hf1) hfc1 (by rw [fu_s]; exact bs2) (hb1.cu (fun q hq => hA c q (by omega) hq)) ?_
            rcases hcase with q | q
            · left
              refine ⟨by omega, fun k hk => ?_, fun k hk => ?_⟩
              · by_cases e : k = r
                · subst e; rw [cu_self, q.1]
                · rw [cu_ne _ _ e, hbk k (by omega)]; exact q.2.1 k (by omega)
              · rw [z_up_far _ _ _ (by decide)]
                by_cases e : k = c
                · subst e; rw [z_up_same, q.1]
                · rw [z_up_ne _ (Or.inr (by omega)), o2 224 (by decide) (by decide) (by decide) (by decide), ov 224 (by decide) (by decide) (by decide) (by decide), h2241 k (by omega), h224 k (by omega)]
                  exact q.2.2 k (by omega)
            · right; exact ⟨by omega, q.2⟩
          | succ m ihm =>
            intro i υ z hi ov hv2 hz1 hz2
            have oυ : Mk σ υ := ho1.trans (Mk.ofO ov)
            have hin : i < n := by omega
            have e19 : υ 211 19 = r := by rw [ov.f]; exact hr1
            refine bk_X12_clear_175 ⟨by constructor <;> omega, by rw [m17 oυ]; constructor <;> omega, fun q => absurd q (by rw [m17 oυ]; omega), fun _ => ⟨by rw [e19]; constructor <;> omega, fun q => ?_, fun q => ?_⟩⟩
            · rw [e19] at q
              refine ihm (i + 1) υ z (by omega) ov hv2 hz1 (fun i' j hi' hj => ?_)
              rw [hz2 i' j hi' hj]
              by_cases cc : i' < i ∧ i' ≠ r
              · rw [if_pos cc, if_pos ⟨by omega, cc.2⟩]
              · rw [if_neg cc, if_neg (by omega)]
            · rw [e19] at q
              have zi : ∀ j : Nat, j < wd → z (20 + 10 * i + j) = u1 (20 + 10 * i + j) := fun j hj => by rw [hz2 i j hin hj, if_neg (by omega)]
              have zr : ∀ j : Nat, j < wd → z (20 + 10 * r + j) = u1 (20 + 10 * r + j) := fun j hj => by rw [hz2 r j (by omega) hj, if_neg (by omega)]
              have z8 : z 8 = u1 8 := hz1 8 (by decide) (by decide) (by decide) (by decide)
              refine c_clears (r := r) (wd := wd) (N := fun j => sg f1 * dt n (cu (cu b1 r (V c)) i (V j))) (by omega) (by omega) (by omega) (by omega) hw2 e19 (m18 oυ) hv2 (by rw [z8]; exact bs1.2.2.1) (by rw [z8]; omega) (fun j hj => ?_) (fun j hj => ?_) (fun υ2 z2 o2 n2 e2 r2 => ?_)
              · rw [zi j hj, zi c (by omega), zr c (by omega), zr j hj, z8, Int.mul_comm (u1 (20 + 10 * i + j))]
                exact bs1.exact (Nat.zero_le _) (by omega) (Nat.zero_le _) hin (by omega) (Nat.zero_le _) (by omega) (Nat.zero_le _) hj
              · rw [zi j hj, zr j hj]
                have q1 := bnd i j hin hj
                have q2 := bnd r j (by omega) hj
                omega
              · refine ihm (i + 1) υ2 z2 (by omega) (ov.trans o2) n2 (fun a a1 a2 a3 a4 => by rw [r2 a a1 a2 a3 (by omega)]; exact hz1 a a1 a2 a3 a4) (fun i' j hi' hj => ?_)
                by_cases e : i' = i
                · subst e
                  rw [e2 j hj, if_pos (by omega)]
                · rw [r2 _ (by omega) (by omega) (by omega) (by omega), hz2 i' j hi' hj]
                  by_cases cc : i' < i ∧ i' ≠ r
                  · rw [if_pos cc, if_pos ⟨by omega, cc.2⟩]
                  · rw [if_neg cc, if_neg (by omega)]
        exact rowsL n 0 τ1 u1 (by omega) Mo.rfl' hM1 (fun _ _ _ _ _ => rfl) (fun i' j _ _ => by rw [if_neg (by omega)])
      -- the swap
      have swp : ∀ (p : Nat), r ≤ p → p < n → u (20 + 10 * p + c) ≠ 0 → ∀ (f1 : Nat), (p = r ∧ f1 = f ∨ p ≠ r ∧ f1 = f + 1) → Z X (rX12_clear zN) mX12_clear 99 [(2, 211), (0, (n : Int)), (0, (c : Int)), (0, (p : Int)), (0, 0)] [] zN (z_up τ0 211 20 f1) (zQv T) := by
        intro p hrp hpn hpne f1 hf1
        obtain ⟨τ1, hτ1⟩ : ∃ τ1 : ZM, τ1 = z_up τ0 211 20 f1 := ⟨_, rfl⟩
        rw [← hτ1]
        have ho1 : Mk σ τ1 := by rw [hτ1]; exact ho0.up (Or.inr ⟨rfl, Or.inr rfl⟩)
        have hM1 : NM τ1 u := by rw [hτ1]; exact hM0.up (fix_20 hM0.1) (by decide)
        have hr1 : τ1 211 19 = r := by rw [hτ1, z_up_ne _ (Or.inr (by decide))]; exact hr0
        have hfl : τ1 211 20 = f1 := by rw [hτ1, z_up_same]
        have h2241 : τ1 224 = τ0 224 := by rw [hτ1]; exact z_up_far _ _ _ (by decide)
        rcases hf1 with q | q
        · refine bk_X12_clear_99 ⟨by decide, by rw [m18 ho1]; constructor <;> omega, fun w => absurd w (by rw [m18 ho1]; omega), fun _ => ⟨by constructor <;> omega, by rw [hr1]; constructor <;> omega, fun _ => ?_, fun w => absurd (by rw [hr1]; omega) w⟩⟩
          refine aft τ1 u b f ho1 hM1 hs hr1 (by rw [hfl, q.2]) (by omega) (fun k _ => by rw [h2241]) bs hb ?_ (fun _ _ => rfl)
          rw [← q.1]; exact hpne
        · have bs2 := bs.swap (r := r) (s := p) (by omega) hpn (by omega) (Nat.zero_le _) (Nat.zero_le _)
          have sl : ∀ (m j : Nat) (υ : ZM) (z : Int → Int), j + m = wd → Mo τ1 υ → NM υ z → (∀ a : Int, a ≠ 9 → ¬ (20 ≤ a ∧ a < 110) → z a = u a) → (∀ i j' : Nat, i < n → j' < wd → z (20 + 10 * i + j') = if j' < j then u (20 + 10 * ((tr r p i : Nat) : Int) + j') else u (20 + 10 * i + j')) →
              Z X (rX12_clear zN) mX12_clear 99 [(2, 211), (0, (n : Int)), (0, (c : Int)), (0, (p : Int)), (0, (j : Int))] [] zN υ (zQv T) := by
            intro m
            induction m with
            | zero =>
              intro j υ z hj ov hv2 hz1 hz2
              have oυ : Mk σ υ := ho1.trans (Mk.ofO ov)
              refine bk_X12_clear_99 ⟨by constructor <;> omega, by rw [m18 oυ]; constructor <;> omega, fun _ => ?_, fun w => absurd (by rw [m18 oυ]; omega) w⟩
              have es : -sg f = sg f1 := by rw [q.2, sg_succ]
              rw [es] at bs2
              refine aft υ z (rsw b r p) f1 oυ hv2 (fun a a1 a2 a3 a4 a5 a6 => by rw [hz1 a a4 a6]; exact hs a a1 a2 a3 a4 a5 a6) (by rw [ov.f]; exact hr1) (by rw [ov.f]; exact hfl) (by omega) (fun k _ => by rw [ov 224 (by decide) (by decide) (by decide) (by decide), h2241]) ?_ (hb.sw (by omega) hpn) ?_ (fun k hk => ?_)
              · rw [hz1 8 (by decide) (by decide)]
                refine ⟨bs2.1, bs2.2.1, bs2.2.2.1, bs2.2.2.2.1, fun i j' a1 a2 a3 a4 => ?_⟩
                show z (20 + 10 * i + j') = _
                rw [hz2 i j' a2 a4, if_pos (by omega)]
                exact bs2.2.2.2.2 i j' a1 a2 a3 a4
              · rw [hz2 r c (by omega) (by omega), if_pos (by omega), show tr r p r = p by unfold tr; rw [if_pos rfl]]
                exact hpne
              · show b (tr r p k) = b k
                rw [show tr r p k = k by unfold tr; split <;> (try split) <;> omega]
            | succ m ihm =>
              intro j υ z hj ov hv2 hz1 hz2
              have oυ : Mk σ υ := ho1.trans (Mk.ofO ov)
              have e19 : υ 211 19 = r := by rw [ov.f]; exact hr1
              refine bk_X12_clear_99 ⟨by constructor <;> omega, by rw [m18 oυ]; constructor <;> omega, fun w => absurd w (by rw [m18 oυ]; omega), fun _ => ⟨by constructor <;> omega, by rw [e19]; constructor <;> omega, fun w => absurd w (by rw [e19]; omega), fun _ => ?_⟩⟩
              have zp : z (20 + 10 * p + j) = u (20 + 10 * p + j) := by rw [hz2 p j hpn (by omega), if_neg (by omega)]
              have zr : z (20 + 10 * r + j) = u (20 + 10 * r + j) := by rw [hz2 r j (by omega) (by omega), if_neg (by omega)]
              refine m_cell (c_copy (by decide) (by decide) (by omega) (by omega) hv2 (fun υ2 o2 n2 => m_cell (m_cell ?_)))
              rw [o2.f, e19]
              rw [zp] at n2
              refine c_copy (by omega) (by omega) (by omega) (by omega) n2 (fun υ3 o3 n3 => m_cell ?_)
              rw [o3.f, o2.f, e19]
              rw [fu_n _ _ (show (20 + 10 * (r : Int) + j) ≠ 9 by omega), zr] at n3
              refine c_copy (by omega) (by omega) (by decide) (by decide) n3 (fun υ4 o4 n4 => ?_)
              rw [fu_n _ _ (show (9 : Int) ≠ 20 + 10 * p + j by omega), fu_s] at n4
              refine ihm (j + 1) υ4 _ (by omega) (((ov.trans o2).trans o3).trans o4) n4 (fun a a1 a2 => by rw [fu_n _ _ (by omega), fu_n _ _ (by omega), fu_n _ _ a1]; exact hz1 a a1 a2) (fun i j' hi hj' => ?_)
              by_cases ej : j' = j
              · subst ej
                rw [if_pos (by omega)]
                by_cases c1 : i = r
                · subst c1
                  rw [fu_s, show tr i p i = p by unfold tr; rw [if_pos rfl]]
                · rw [fu_n _ _ (by omega)]
                  by_cases c2 : i = p
                  · subst c2
                    rw [fu_s, show tr r i i = r by unfold tr; rw [if_neg c1, if_pos rfl]]
                  · rw [fu_n _ _ (by omega), fu_n _ _ (by omega), hz2 i j' hi hj', if_neg (by omega), show tr r p i = i by unfold tr; rw [if_neg c1, if_neg c2]]
              · rw [fu_n _ _ (by omega), fu_n _ _ (by omega), fu_n _ _ (by omega), hz2 i j' hi hj']
                by_cases cc : j' < j
                · rw [if_pos cc, if_pos (by omega)]
                · rw [if_neg cc, if_neg (by omega)]
          exact sl wd 0 τ1 u (by omega) Mo.rfl' hM1 (fun _ _ _ => rfl) (fun i j' _ _ => by rw [if_neg (by omega)])
      have seek : ∀ (m p : Nat), p + m = n → r ≤ p → (∀ p' : Nat, r ≤ p' → p' < p → u (20 + 10 * p' + c) = 0) → Z X (rX12_clear zN) mX12_clear 36 [(2, 211), (0, (n : Int)), (0, (c : Int)), (0, (p : Int)), (9, 0)] [] zN τ0 (zQv T) := by
        intro m
        induction m with
        | zero =>
          intro p hp hrp hz
          have hpn : p = n := by omega
          subst hpn
          refine bk_X12_clear_36 ⟨by constructor <;> omega, by rw [m17 ho0]; constructor <;> omega, fun _ => ⟨fun q => absurd (by rw [m17 ho0]) q, fun _ => ?_⟩, fun q => absurd (by rw [m17 ho0]; omega) q⟩
          have nk : ¬ KF p V := by
            rcases hcase with q | q
            · exact bs_miss bs (c := c) hcn (Nat.zero_le _) (by omega) q.2.1 (fun i hi hin => hz i (by omega) hin)
            · exact q.2
          exact ih (c + 1) τ0 u b f r (by omega) ho0 hM0 hs hr0 hf0 (by omega) bs hb (Or.inr ⟨by omega, nk⟩)
        | succ m ihm =>
          intro p hp hrp hz
          have hpn : p < n := by omega
          have mp := hM0.2 (20 + 10 * p + c) (by omega) (by omega)
          refine bk_X12_clear_36 ⟨by constructor <;> omega, by rw [m17 ho0]; constructor <;> omega, fun q => absurd q (by rw [m17 ho0]; omega), fun _ => m_cell (c_isZero (by omega) (by omega) hM0.1 mp.1 ⟨fun q => ?_, fun q => ?_⟩)⟩
          · have z := of_decide_eq_false q
            rw [mp.2] at z
            refine ⟨by rw [m17 ho0]; constructor <;> omega, fun _ => ⟨by rw [hr0]; constructor <;> omega, fun w => ?_, fun w => ?_⟩, fun w => absurd w (by rw [m17 ho0]; omega)⟩
            · rw [hr0] at w
              rw [hf0]
              exact swp p hrp hpn z (f + 1) (Or.inr ⟨by omega, rfl⟩)
            · rw [hr0] at w
              rw [hf0, Int.add_zero]
              exact swp p hrp hpn z f (Or.inl ⟨by omega, rfl⟩)
          · have z := of_decide_eq_true q
            rw [mp.2] at z
            refine ihm (p + 1) (by omega) (by omega) (fun p' h1 h2 => ?_)
            by_cases e : p' = p
            · rw [e]; exact z
            · exact hz p' h1 (by omega)
      exact seek (n - r) r (by omega) (Nat.le_refl _) (fun p' h1 h2 => absurd h2 (by omega))
  refine bk_X12_clear ?_
  have hM1 : NM (z_up (z_up σ 211 19 0) 211 20 0) v := (hN.up (fix_19 hN.1) (by decide)).up (fix_20 (fix_19 hN.1)) (by decide)
  refine c_set (by decide) (by decide) hM1 (by decide) (by decide) (fun σ2 o2 n2 => ?_)
  refine loop n 0 σ2 _ un 0 0 (by omega) (((Mk.rfl'.up (Or.inr ⟨rfl, Or.inl rfl⟩)).up (Or.inr ⟨rfl, Or.inr rfl⟩)).trans (Mk.ofO o2)) n2 (fun a a1 a2 a3 a4 a5 a6 => fu_n _ _ a3) ?_ ?_ (Nat.le_refl _) ?_ (bd_un (by decide)) (Or.inl ⟨rfl, fun k hk => absurd hk (by omega), fun k hk => absurd hk (by omega)⟩)
  · rw [o2.f, z_up_ne _ (Or.inr (by decide)), z_up_same]; rfl
  · rw [o2.f, z_up_same]; rfl
  · rw [fu_s]
    refine bs_init n wd V _ (fun i j hi hj => ?_)
    show fu v 8 1 (20 + 10 * i + j) = V j i
    rw [fu_n _ _ (by omega)]
    exact hv i j hi hj
