theorem fa_mono {A : Int} (hA : 1 ≤ A) : ∀ {m n : Nat}, m ≤ n → fa A m ≤ fa A n := by
  intro m n h
  induction n with
  | zero =>
    have : m = 0 := by omega
    subst this; exact Int.le_refl _
  | succ n ih =>
    by_cases e : m = n + 1
    · subst e; exact Int.le_refl _
    · have h1 := ih (by omega)
      have hp := fa_pos hA n
      have h2 : fa A n * 1 ≤ fa A n * A := Int.mul_le_mul_of_nonneg_left hA (Int.le_of_lt hp)
      rw [Int.mul_comm (fa A n) A] at h2
      have h3 : 1 * (A * fa A n) ≤ ((n : Int) + 1) * (A * fa A n) := Int.mul_le_mul_of_nonneg_right (by omega) (by omega)
      show fa A m ≤ ((n : Int) + 1) * (A * fa A n)
      omega
theorem fa7 : fa 300000 7 < pw 5 := by unfold pw; decide +kernel
theorem fa7n {n : Nat} (h : n ≤ 7) : fa 300000 n < pw 5 := by
  have := fa_mono (A := 300000) (by decide) h
  have := fa7
  omega
theorem c_solve {X : ZS} {σ : ZM} {T : Bool → ZM → Prop} {w : Int → Int} {u : Nat} {v : Nat → Nat → Int} (hu : u ≤ 7) (hg : GP (σ 17)) (h : WN σ w)
    (hv : ∀ i j : Nat, i < u → j ≤ u → w (σ 17 ((i : Int) * 8 + j)) = v j i) (hA : ∀ j r : Nat, j ≤ u → r < u → -300000 ≤ v j r ∧ v j r ≤ 300000)
    (h0 : ∀ σ' w', WN σ' w' → GP (σ' 17) → Ou 17 140 σ σ' → ¬ KF u v → T false σ')
    (h1 : ∀ σ' w', WN σ' w' → GP (σ' 17) → Ou 17 140 σ σ' → KF u v → w' 20 ≠ 0 → (-fa 300000 u ≤ w' 20 ∧ w' 20 ≤ fa 300000 u) → (∀ l : Nat, l < u → -fa 300000 u ≤ w' (σ' 17 ((l : Int) * 8 + u)) ∧ w' (σ' 17 ((l : Int) * 8 + u)) ≤ fa 300000 u) → (∀ r : Nat, r < u → w' 20 * v u r = sm (fun l => w' (σ' 17 ((l : Int) * 8 + u)) * v l r) u) → T true σ') :
    ZC X (rX4_solve zN) mX4_solve [(2, 16), (0, (u : Int))] zN σ (zQz T) := by
  have loop : ∀ (l k : Nat) (τ : ZM) (w' : Int → Int) (b : Nat → Nat → Int) (e : Int), k + l = u → WN τ w' → GP (τ 17) → Ou 17 140 σ τ → BS u v b e 0 k (u + 1) (fun i j => w' (τ 17 ((i : Int) * 8 + j))) (w' 20) → bd u 300000 b → (∀ c, c < k → b c = v c) →
      Z X (rX4_solve zN) mX4_solve 10 [(2, 16), (0, (u : Int)), (0, (k : Int))] [] zN τ (zQz T) := by
    intro l
    induction l with
    | zero =>
      intro k τ w' b e hk n gp o bs hb hbv
      have : k = u := by omega
      subst this
      refine bk_X4_solve_10 ⟨by constructor <;> omega, by constructor <;> omega, fun _ => ?_, fun q => absurd (Int.le_refl _) q⟩
      have full := bs_full bs hbv
      refine h1 τ w' n gp o full.1 bs.2.2.1 (bs.bndD (by decide) hb) (fun i hi => ?_) (full.2.2 k (Nat.le_refl _) (by omega))
      exact bs.bnd (by decide) hb (fun j r hj hr => hA j r (by omega) hr) (Nat.zero_le _) hi (Nat.le_refl _) (by omega)
    | succ l ih =>
      intro k τ w' b e hk n gp o bs hb hbv
      refine bk_X4_solve_10 ⟨by constructor <;> omega, by constructor <;> omega, fun q => absurd q (by omega), fun _ => ?_⟩
      refine c_bringPivot (by omega) hu gp n (fun hz => ⟨fun q => (by cases q), fun _ => ?_⟩) (fun s τ1 ks su hne n1 o1 p1 => ⟨fun _ => ?_, fun q => (by cases q)⟩)
      · exact h0 τ w' n gp o (bs_miss bs (c := k) (by omega) (Nat.le_refl _) (by omega) hbv hz)
      · have gp1 : GP (τ1 17) := gp.swap (by omega) (by omega) p1
        have ou1 : Ou 17 140 τ τ1 := fun c hc => o1 c (by omega)
        -- the state behind the swap
        obtain ⟨b1, e1, bs1, hb1, hbv1⟩ : ∃ b1 e1, BS u v b1 e1 0 k (u + 1) (fun i j => w' (τ1 17 ((i : Int) * 8 + j))) (w' 20) ∧ bd u 300000 b1 ∧ (∀ c, c < k → b1 c = v c) := by
          have me : ∀ i j : Nat, i < u → j < u + 1 → w' (τ1 17 ((i : Int) * 8 + j)) = (fun i j => w' (τ 17 ((i : Int) * 8 + (j : Nat)))) (tr k s i) j := fun i j hi hj => by rw [p1 i j (by omega) (by omega)]
          by_cases hks : s = k
          · subst hks
            refine ⟨b, e, ⟨bs.1, bs.2.1, bs.2.2.1, bs.2.2.2.1, fun i j a1 a2 a3 a4 => ?_⟩, hb, hbv⟩
            show w' (τ1 17 ((i : Int) * 8 + j)) = _
            rw [me i j a2 a4, show tr s s i = i by unfold tr; split <;> (try split) <;> omega]
            exact bs.2.2.2.2 i j a1 a2 a3 a4
          · have sw := bs.swap (r := k) (s := s) (by omega) (by omega) (by omega) (Nat.zero_le _) (Nat.zero_le _)
            refine ⟨rsw b k s, -e, ⟨sw.1, sw.2.1, sw.2.2.1, sw.2.2.2.1, fun i j a1 a2 a3 a4 => ?_⟩, hb.sw (by omega) (by omega), fun c hc => ?_⟩
            · show w' (τ1 17 ((i : Int) * 8 + j)) = _
              rw [me i j a2 a4]
              exact sw.2.2.2.2 i j a1 a2 a3 a4
            · show b (tr k s c) = v c
              rw [show tr k s c = c by unfold tr; split <;> (try split) <;> omega]
              exact hbv c hc
        have hp : w' (τ1 17 ((k : Int) * 8 + k)) ≠ 0 := by
          rw [p1 k k (by omega) (by omega), show tr k s k = s by unfold tr; rw [if_pos rfl]]
          exact hne
        have hbnd : ∀ i j : Nat, i < u → k ≤ j → j < u + 1 → -fa 300000 u ≤ w' (τ1 17 ((i : Int) * 8 + j)) ∧ w' (τ1 17 ((i : Int) * 8 + j)) ≤ fa 300000 u := fun i j hi hkj hj => bs1.bnd (by decide) hb1 (fun j r hj hr => hA j r (by omega) hr) (Nat.zero_le _) hi hkj hj
        have f7 := fa7n hu
        have step := c_clearColumn (X := X) (σ := τ1) (w := w') (k := k) (f := 0) (rows := u) (cols := u + 1) (N := fun i j => e1 * dt u (cu (cu b1 k (v k)) i (v j))) (T := fun σ6 => (Fix σ6) ∧ ZC X (rX4_cell zN) mX4_cell [(2, 16), (0, (k : Int)), (0, (k : Int))] zN σ6 (zQa (fun r8 σ9 => ZC X (rX9_copyFrom zN) mX9_copyFrom [(2, 20), (2, r8)] zN σ9 (zQv (fun σ11 => Z X (rX4_solve zN) mX4_solve 10 [(2, 16), (0, (u : Int)), (0, ((k : Int) + 1))] [] zN σ11 (zQz T)))))) (by omega) hu (by omega) (by decide) gp1 n1 bs1.2.2.1 (fun i j _ hi hik hkj hj => ?_) (fun i j _ hi hkj hj => ?_) (fun τ2 w2 o2 n2 v2 r2 => ⟨n2.1, ?_⟩)
        · exact step
        · exact bs1.exact (Nat.zero_le _) (by omega) (Nat.zero_le _) hi hik (Nat.le_refl _) (by omega) (by omega) hj
        · have := hbnd i j hi hkj hj
          omega
        · have e17 : τ2 17 = τ1 17 := o2 17 (by omega)
          refine c_cell (by omega) (by omega) n2.1 ?_
          have lp := gp1.at (i := k) (j := k) (by omega) (by omega)
          rw [e17]
          refine w_copy la_20 lp.1 (by omega) n2 (fun τ3 o3 n3 => ?_)
          have e17' : τ3 17 = τ1 17 := by rw [(Ou.ofW (lo := 18) (hi := 140) o3 (by decide) (by decide)) 17 (by omega), e17]
          have pv : w2 (τ1 17 ((k : Int) * 8 + k)) = w' (τ1 17 ((k : Int) * 8 + k)) := by rw [v2 k k (by omega) (by omega), if_neg (by omega)]
          have cv : ∀ i j : Nat, i < 7 → j < 8 → fu w2 20 (w2 (τ1 17 ((k : Int) * 8 + k))) (τ3 17 ((i : Int) * 8 + j)) = w2 (τ1 17 ((i : Int) * 8 + j)) := fun i j hi hj => by
            rw [e17', fu_n _ _ (by have := gp1.at (i := i) (j := j) hi hj; omega)]
          have D1 : fu w2 20 (w2 (τ1 17 ((k : Int) * 8 + k))) 20 = w' (τ1 17 ((k : Int) * 8 + k)) := by rw [fu_s, pv]
          refine ih (k + 1) τ3 _ (cu b1 k (v k)) e1 (by omega) n3 (by rw [e17']; exact gp1) ((o.trans ou1).trans (((o2.mono (by decide) (Int.le_refl _)).trans (Ou.ofW o3 (by decide) (by decide))))) ?_ (hb1.cu (fun r hr => hA k r (by omega) hr)) (fun c hc => ?_)
          · rw [D1]
            refine bs1.step (M' := fun i j => fu w2 20 (w2 (τ1 17 ((k : Int) * 8 + k))) (τ3 17 ((i : Int) * 8 + j))) (Nat.zero_le _) (by omega) (Nat.le_refl _) (by omega) hp (Nat.le_refl _) (by omega) (fun i j _ hi hik hkj hj => ?_) (fun j _ hkj hj => ?_)
            · show fu w2 20 _ (τ3 17 ((i : Int) * 8 + j)) * w' 20 = _
              rw [cv i j (by omega) (by omega), v2 i j (by omega) (by omega), if_pos ⟨Nat.zero_le _, hi, hik, by omega, by omega⟩]
              exact (bs1.exact (Nat.zero_le _) (by omega) (Nat.zero_le _) hi hik (Nat.le_refl _) (by omega) (by omega) hj).symm
            · show fu w2 20 _ (τ3 17 ((k : Int) * 8 + j)) = _
              rw [cv k j (by omega) (by omega), v2 k j (by omega) (by omega), if_neg (by omega)]
          · by_cases ck : c = k
            · subst ck; rw [cu_self]
            · rw [cu_ne _ _ ck]; exact hbv1 c (by omega)
  refine bk_X4_solve ⟨h.1, w_put la_20 h (by decide) (by decide) (fun σ3 o3 n3 => ?_)⟩
  have e17 : σ3 17 = σ 17 := (Ou.ofW (lo := 18) (hi := 140) o3 (by decide) (by decide)) 17 (by omega)
  refine loop u 0 σ3 _ un 1 (by omega) n3 (by rw [e17]; exact hg) (Ou.ofW o3 (by decide) (by decide)) ?_ (bd_un (by decide)) (fun c hc => absurd hc (by omega))
  rw [fu_s]
  refine bs_init u (u + 1) v _ (fun i j hi hj => ?_)
  show fu w 20 1 (σ3 17 ((i : Int) * 8 + j)) = v j i
  rw [e17, fu_n _ _ (by have := hg.at (i := i) (j := j) (by omega) (by omega); omega)]
  exact hv i j hi (by omega)
