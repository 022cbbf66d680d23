def jd (u : Nat) (A : Nat → Nat → Int) (r : Int) : Prop := (r = 0 ∧ ¬ PSD u A) ∨ (r = 1 ∧ PSD u A ∧ ¬ PD u A) ∨ (r = 2 ∧ PSD u A ∧ PD u A)
theorem pd_psd {u : Nat} {A : Nat → Nat → Int} (h : PD u A) : PSD u A := fun c => by
  by_cases w : ∃ i, i < u ∧ c i ≠ 0
  · exact Int.le_of_lt (h c w)
  · rw [qf_zero (fun i hi => Classical.byContradiction (fun q => w ⟨i, hi, q⟩))]; exact Int.le_refl _
theorem c_isZeroBehind {X : ZS} {σ : ZM} {T : Bool → ZM → Prop} {w : Int → Int} {k u : Nat} (hk : k < u) (hu : u ≤ 7) (hg : GP (σ 17)) (h : WN σ w)
    (h1 : (∀ j : Nat, k < j → j < u → w (σ 17 ((k : Int) * 8 + j)) = 0) → T true σ) (h0 : ∀ j : Nat, k < j → j < u → w (σ 17 ((k : Int) * 8 + j)) ≠ 0 → T false σ) :
    ZC X (rX4_isZeroBehind zN) mX4_isZeroBehind [(2, 16), (0, (k : Int)), (0, (u : Int))] zN σ (zQz T) := by
  have loop : ∀ (l c : Nat), c + l = u → k < c → (∀ j : Nat, k < j → j < c → w (σ 17 ((k : Int) * 8 + j)) = 0) → Z X (rX4_isZeroBehind zN) mX4_isZeroBehind 4 [(2, 16), (0, (k : Int)), (0, (u : Int)), (0, (c : Int))] [] zN σ (zQz T) := by
    intro l
    induction l with
    | zero =>
      intro c hc _ hz
      have : c = u := by omega
      subst this
      exact bk_X4_isZeroBehind_4 ⟨by constructor <;> omega, by constructor <;> omega, fun _ => h1 hz, fun q => absurd (Int.le_refl _) q⟩
    | succ l ih =>
      intro c hc hkc hz
      have lp := hg.at (i := k) (j := c) (by omega) (by omega)
      have sg3 := (h.wf lp.1).2.2.2.2.2.1
      refine bk_X4_isZeroBehind_4 ⟨by constructor <;> omega, by constructor <;> omega, fun q => absurd q (by omega), fun _ => c_cell (by omega) (by omega) h.1 ⟨lp.1, by constructor <;> omega, fun q => ?_, fun q => ?_⟩⟩
      · refine ih (c + 1) (by omega) (by omega) (fun j hj hj2 => ?_)
        by_cases e : j = c
        · subst e; exact (h.sgn lp.1).1.mp q
        · exact hz j hj (by omega)
      · exact h0 c hkc (by omega) (fun e => q ((h.sgn lp.1).1.mpr e))
  exact bk_X4_isZeroBehind (loop (u - (k + 1)) (k + 1) (by omega) (by omega) (fun j _ _ => by omega))
theorem c_judge {X : ZS} {σ : ZM} {T : Int → ZM → Prop} {w : Int → Int} {u : Nat} {A : Nat → Nat → Int} (hu : u ≤ 7) (hg : GP (σ 17)) (h : WN σ w)
    (hv : ∀ i j : Nat, i < u → j < u → w (σ 17 ((i : Int) * 8 + j)) = A i j) (hA : ∀ i j : Nat, i < u → j < u → -300000 ≤ A i j ∧ A i j ≤ 300000) (hs : Sy u A)
    (hT : ∀ r σ' w', WN σ' w' → GP (σ' 17) → Ou 18 140 σ σ' → jd u A r → T r σ') :
    ZC X (rX4_judge zN) mX4_judge [(2, 16), (0, (u : Int))] zN σ (zQi T) := by
  have loop : ∀ (l k : Nat) (τ : ZM) (w' : Int → Int) (b : Nat → Nat → Int) (x2 : Int), k + l = u → WN τ w' → τ 17 = σ 17 → Ou 18 140 σ τ → BS u (fun j i => A i j) b 1 k k u (fun i j => w' (σ 17 ((i : Int) * 8 + j))) (w' 20) → bd u 300000 b → 0 < w' 20 → Sy l (fun i j => w' (σ 17 (((k + i : Nat) : Int) * 8 + ((k + j : Nat) : Int)))) →
      (PSD u A ↔ PSD l (fun i j => w' (σ 17 (((k + i : Nat) : Int) * 8 + ((k + j : Nat) : Int))))) → (x2 = 2 ∧ (PD u A ↔ PD l (fun i j => w' (σ 17 (((k + i : Nat) : Int) * 8 + ((k + j : Nat) : Int))))) ∨ x2 = 1 ∧ ¬ PD u A) →
      Z X (rX4_judge zN) mX4_judge 12 [(2, 16), (0, (u : Int)), (0, x2), (0, (k : Int)), (9, 0)] [] zN τ (zQi T) := by
    intro l
    induction l with
    | zero =>
      intro k τ w' b x2 hk n e17 o bs hb hD sy ps pd
      have : k = u := by omega
      subst this
      refine bk_X4_judge_12 ⟨by constructor <;> omega, by constructor <;> omega, fun _ => hT x2 τ w' n (by rw [e17]; exact hg) o ?_, fun q => absurd (Int.le_refl _) q⟩
      have p0 : PSD k A := ps.mpr (fun c => Int.le_refl 0)
      rcases pd with ⟨e, q⟩ | ⟨e, q⟩
      · exact Or.inr (Or.inr ⟨e, p0, q.mpr (fun c hc => by obtain ⟨i, hi, _⟩ := hc; omega)⟩)
      · exact Or.inr (Or.inl ⟨e, p0, q⟩)
    | succ l ih =>
      intro k τ w' b x2 hk n e17 o bs hb hD sy ps pd
      have lp := hg.at (i := k) (j := k) (by omega) (by omega)
      have sg3 := (n.wf lp.1).2.2.2.2.2.1
      have sgn := n.sgn lp.1
      have gp : GP (τ 17) := by rw [e17]; exact hg
      have M0 : (fun i j => w' (σ 17 (((k + i : Nat) : Int) * 8 + ((k + j : Nat) : Int)))) 0 0 = w' (σ 17 ((k : Int) * 8 + (k : Int))) := rfl
      have zero : w' (σ 17 ((k : Int) * 8 + (k : Int))) = 0 → (∀ j : Nat, k < j → j < u → w' (σ 17 ((k : Int) * 8 + j)) = 0) → Z X (rX4_judge zN) mX4_judge 12 [(2, 16), (0, (u : Int)), (0, 1), (0, ((k : Int) + 1)), (9, 0)] [] zN τ (zQi T) := fun z1 z2 => by
        have pz := psd_zero sy (fun j hj => by
          cases j with
          | zero => exact z1
          | succ j => exact z2 (k + (j + 1)) (by omega) (by omega))
        have e : shf (fun i j => w' (σ 17 (((k + i : Nat) : Int) * 8 + ((k + j : Nat) : Int)))) = (fun i j => w' (σ 17 (((k + 1 + i : Nat) : Int) * 8 + ((k + 1 + j : Nat) : Int)))) := by
          funext i j
          show w' (σ 17 (((k + (i + 1) : Nat) : Int) * 8 + ((k + (j + 1) : Nat) : Int))) = _
          rw [show k + (i + 1) = k + 1 + i by omega, show k + (j + 1) = k + 1 + j by omega]
        rw [e] at pz
        refine ih (k + 1) τ w' b 1 (by omega) n e17 o (bs.mono (by omega) (by omega) (Nat.le_refl _)) hb hD (by have := sy.shf; rw [e] at this; exact this) (ps.trans pz.1) (Or.inr ⟨rfl, fun q => ?_⟩)
        rcases pd with ⟨_, q2⟩ | ⟨_, q2⟩
        · exact pz.2 (q2.mp q)
        · exact q2 q
      refine bk_X4_judge_12 ⟨by constructor <;> omega, by constructor <;> omega, fun q => absurd q (by omega), fun _ => c_cell (by omega) (by omega) n.1 ?_⟩
      rw [e17]
      refine ⟨lp.1, by constructor <;> omega, fun q => ?_, fun q => ⟨fun q2 => ⟨fun _ => ?_, fun q3 => absurd q3 q2⟩, fun q2 => ?_⟩⟩
      · exact hT 0 τ w' n gp o (Or.inl ⟨rfl, fun p => psd_neg sy (sgn.2.mp q) (ps.mp p)⟩)
      · have hp : 0 < w' (σ 17 ((k : Int) * 8 + (k : Int))) := by
          have a1 : ¬ w' (σ 17 ((k : Int) * 8 + (k : Int))) = 0 := fun e => q2 (sgn.1.mpr e)
          have a2 : ¬ w' (σ 17 ((k : Int) * 8 + (k : Int))) < 0 := fun e => q (sgn.2.mpr e)
          omega
        have hbnd : ∀ i j : Nat, k ≤ i → i < u → k ≤ j → j < u → -fa 300000 u ≤ w' (σ 17 ((i : Int) * 8 + j)) ∧ w' (σ 17 ((i : Int) * 8 + j)) ≤ fa 300000 u := fun i j hki hi hkj hj => bs.bnd (by decide) hb (fun j r hj hr => hA r j hr hj) hki hi hkj hj
        have f7 := fa7n hu
        have step := c_clearColumn (X := X) (σ := τ) (w := w') (k := k) (f := k + 1) (rows := u) (cols := u) (N := fun i j => 1 * dt u (cu (cu b k (fun i => A i k)) i (fun i => A i j))) (T := fun σ8 => (Fix σ8) ∧ ZC X (rX4_cell zN) mX4_cell [(2, 16), (0, (k : Int)), (0, (k : Int))] zN σ8 (zQa (fun r10 σ11 => ZC X (rX9_copyFrom zN) mX9_copyFrom [(2, 20), (2, r10)] zN σ11 (zQv (fun σ13 => Z X (rX4_judge zN) mX4_judge 12 [(2, 16), (0, (u : Int)), (0, x2), (0, ((k : Int) + 1)), (9, 0)] [] zN σ13 (zQi T)))))) (by omega) hu (by omega) (by omega) gp n bs.2.2.1 (fun i j hfi hi hik hkj hj => ?_) (fun i j hfi hi hkj hj => ?_) (fun τ2 w2 o2 n2 v2 r2 => ⟨n2.1, ?_⟩)
        · exact step
        · rw [e17]
          exact bs.exact (Nat.le_refl _) (by omega) (by omega) hi hik (Nat.le_refl _) (by omega) (by omega) hj
        · rw [e17]
          have := hbnd i j (by omega) hi hkj hj
          omega
        · have e17b : τ2 17 = σ 17 := (o2 17 (by omega)).trans e17
          rw [e17] at v2
          refine c_cell (by omega) (by omega) n2.1 ?_
          rw [e17b]
          refine w_copy la_20 lp.1 (by omega) n2 (fun τ3 o3 n3 => ?_)
          have e17' : τ3 17 = σ 17 := by rw [(Ou.ofW (lo := 18) (hi := 140) o3 (by decide) (by decide)) 17 (by omega), e17b]
          have pv : w2 (σ 17 ((k : Int) * 8 + k)) = w' (σ 17 ((k : Int) * 8 + k)) := by rw [v2 k k (by omega) (by omega), if_neg (by omega)]
          have cv : ∀ i j : Nat, i < 7 → j < 8 → fu w2 20 (w2 (σ 17 ((k : Int) * 8 + k))) (σ 17 ((i : Int) * 8 + j)) = w2 (σ 17 ((i : Int) * 8 + j)) := fun i j hi hj => by
            rw [fu_n _ _ (by have := hg.at (i := i) (j := j) hi hj; omega)]
          have D1 : fu w2 20 (w2 (σ 17 ((k : Int) * 8 + k))) 20 = w' (σ 17 ((k : Int) * 8 + k)) := by rw [fu_s, pv]
          have nw : ∀ i j : Nat, k + 1 ≤ i → i < u → k + 1 ≤ j → j < u → fu w2 20 (w2 (σ 17 ((k : Int) * 8 + k))) (σ 17 ((i : Int) * 8 + j)) * w' 20 = w' (σ 17 ((k : Int) * 8 + k)) * w' (σ 17 ((i : Int) * 8 + j)) - w' (σ 17 ((i : Int) * 8 + k)) * w' (σ 17 ((k : Int) * 8 + j)) := fun i j hki hi hkj hj => by
            rw [cv i j (by omega) (by omega), v2 i j (by omega) (by omega), if_pos ⟨by omega, hi, by omega, by omega, by omega⟩]
            exact (bs.exact (r := k) (c := k) (Nat.le_refl _) (by omega) (by omega) hi (by omega) (Nat.le_refl _) (by omega) (by omega) hj).symm
          have sc : ∀ i j, i < l → j < l → schu (fun i j => w' (σ 17 (((k + i : Nat) : Int) * 8 + ((k + j : Nat) : Int)))) i j = w' 20 * (fun i j => fu w2 20 (w2 (σ 17 ((k : Int) * 8 + k))) (σ 17 (((k + 1 + i : Nat) : Int) * 8 + ((k + 1 + j : Nat) : Int)))) i j := fun i j hi hj => by
            show w' (σ 17 ((k : Int) * 8 + (k : Int))) * w' (σ 17 (((k + (i + 1) : Nat) : Int) * 8 + ((k + (j + 1) : Nat) : Int))) - w' (σ 17 (((k + (i + 1) : Nat) : Int) * 8 + (k : Int))) * w' (σ 17 ((k : Int) * 8 + ((k + (j + 1) : Nat) : Int))) = w' 20 * fu w2 20 (w2 (σ 17 ((k : Int) * 8 + k))) (σ 17 (((k + 1 + i : Nat) : Int) * 8 + ((k + 1 + j : Nat) : Int)))
            rw [show k + (i + 1) = k + 1 + i by omega, show k + (j + 1) = k + 1 + j by omega, Int.mul_comm (w' 20), nw (k + 1 + i) (k + 1 + j) (by omega) (by omega) (by omega) (by omega)]
          have ss := sy.sch
          have st := psd_step sy hp
          refine ih (k + 1) τ3 _ (cu b k (fun i => A i k)) x2 (by omega) n3 e17' (o.trans ((o2.mono (by decide) (Int.le_refl _)).trans (Ou.ofW o3 (by decide) (by decide)))) ?_ (hb.cu (fun r hr => hA r k hr (by omega))) (by rw [D1]; exact hp) (fun i j hi hj => ?_) ?_ ?_
          · rw [D1]
            refine bs.step (M' := fun i j => fu w2 20 (w2 (σ 17 ((k : Int) * 8 + k))) (σ 17 ((i : Int) * 8 + j))) (r := k) (c := k) (Nat.le_refl _) (by omega) (Nat.le_refl _) (by omega) (by omega) (by omega) (by omega) (fun i j hki hi hik hkj hj => nw i j hki hi hkj hj) (fun j hkk _ _ => by omega)
          · have a := ss i j hi hj
            rw [sc i j hi hj, sc j i hj hi] at a
            exact Int.eq_of_mul_eq_mul_left (by omega) a
          · exact ps.trans (st.1.trans (psd_smul hD sc))
          · rcases pd with ⟨e, q⟩ | ⟨e, q⟩
            · exact Or.inl ⟨e, q.trans (st.2.trans (pd_smul hD sc))⟩
            · exact Or.inr ⟨e, q⟩
      · have z1 := sgn.1.mp q2
        refine c_isZeroBehind (by omega) hu gp n (fun z2 => ⟨fun _ => ⟨fun q3 => absurd q2 q3, fun _ => zero z1 (by rw [e17] at z2; exact z2)⟩, fun q3 => (by cases q3)⟩) (fun j hj hj2 hne => ⟨fun q3 => (by cases q3), fun _ => ?_⟩)
        rw [e17] at hne
        obtain ⟨j', rfl⟩ : ∃ j', j = k + (j' + 1) := ⟨j - k - 1, by omega⟩
        exact hT 0 τ w' n gp o (Or.inl ⟨rfl, fun p => psd_bad sy z1 (k := j') (by omega) hne (ps.mp p)⟩)
  refine bk_X4_judge ⟨h.1, w_put la_20 h (by decide) (by decide) (fun σ3 o3 n3 => ?_)⟩
  have o := Ou.ofW (lo := 18) (hi := 140) o3 (by decide) (by decide)
  have e17 : σ3 17 = σ 17 := o 17 (by omega)
  have cv : ∀ i j : Nat, i < u → j < u → fu w 20 1 (σ 17 ((i : Int) * 8 + j)) = A i j := fun i j hi hj => by
    rw [fu_n _ _ (by have := hg.at (i := i) (j := j) (by omega) (by omega); omega)]
    exact hv i j hi hj
  have cz : ∀ i j : Nat, i < u → j < u → A i j = fu w 20 1 (σ 17 (((0 + i : Nat) : Int) * 8 + ((0 + j : Nat) : Int))) := fun i j hi hj => by rw [Nat.zero_add, Nat.zero_add]; exact (cv i j hi hj).symm
  refine loop u 0 σ3 _ un 2 (by omega) n3 e17 o ?_ (bd_un (by decide)) (by rw [fu_s]; decide) (fun i j hi hj => ?_) ?_ (Or.inl ⟨rfl, ?_⟩)
  · rw [fu_s]
    exact bs_init u u (fun j i => A i j) _ (fun i j hi hj => cv i j hi hj)
  · show fu w 20 1 (σ 17 (((0 + i : Nat) : Int) * 8 + ((0 + j : Nat) : Int))) = fu w 20 1 (σ 17 (((0 + j : Nat) : Int) * 8 + ((0 + i : Nat) : Int)))
    rw [← cz i j hi hj, ← cz j i hj hi]; exact hs i j hi hj
  · exact psd_smul (D := 1) (by decide) (fun i j hi hj => by rw [Int.one_mul]; exact cz i j hi hj)
  · exact pd_smul (D := 1) (by decide) (fun i j hi hj => by rw [Int.one_mul]; exact cz i j hi hj)
