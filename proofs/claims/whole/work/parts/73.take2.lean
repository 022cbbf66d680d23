theorem wts_r {D P F : Int} {u : Nat} {y : Nat → Int} (u7 : u ≤ 7) (F0 : 0 ≤ F) (bD : -(6 * F) ≤ D * P ∧ D * P ≤ 6 * F) (by' : ∀ l : Nat, l < u → -F ≤ y l ∧ y l ≤ F) {j : Nat} (hj : j < u + 1) : -(13 * F) ≤ wts D P u y j ∧ wts D P u y j ≤ 13 * F := by
  cases j with
  | zero =>
    show -(13 * F) ≤ D * P - sm y u ∧ D * P - sm y u ≤ 13 * F
    have := sm_abs (f := y) (B := F) (n := u) by'
    have : (u : Int) * F ≤ 7 * F := Int.mul_le_mul_of_nonneg_right (by omega) F0
    omega
  | succ j =>
    show -(13 * F) ≤ y j ∧ y j ≤ 13 * F
    have := by' j (by omega)
    omega
theorem wsum_r {F K : Int} {n : Nat} {x c : Nat → Int} (n8 : n ≤ 8) (F0 : 0 ≤ F) (K0 : 0 ≤ K) (hx : ∀ j, j < n → -(13 * F) ≤ x j ∧ x j ≤ 13 * F) (hc : ∀ j, j < n → -K ≤ c j ∧ c j ≤ K) (j : Nat) (hj : j ≤ n) : -(8 * (K * (13 * F))) ≤ sm (fun i => x i * c i) j ∧ sm (fun i => x i * c i) j ≤ 8 * (K * (13 * F)) := by
  have h := sm_abs (f := fun i => x i * c i) (B := K * (13 * F)) (n := j) (fun i hi => by
    have a := hx i (by omega)
    have b := hc i (by omega)
    have := z_pb b.1 b.2 a.1 a.2 (by omega)
    rw [Int.mul_comm (x i)]; exact this)
  have p : 0 ≤ K * (13 * F) := Int.mul_nonneg K0 (by omega)
  have : (j : Int) * (K * (13 * F)) ≤ 8 * (K * (13 * F)) := Int.mul_le_mul_of_nonneg_right (by omega) p
  omega
theorem c_take {X : ZS} {σ α : ZM} {T : ZM → Prop} {w : Int → Int} {u : Nat} {d : Nat → Nat} {C : Nat → Bool} {s D P F W : Int} {y nu a ρ : Nat → Int} (hs : s = 199 ∨ s = 205) (hn : WN σ w) (hg : GP (σ 17)) (h142 : ∀ i : Int, 0 ≤ i → i < 8 → σ 142 i = 153 + 2 * i) (o : Ord C (u + 1) d) (cd : CD σ α (u + 1) d) (hP : σ 11 5 = P) (P0 : 0 ≤ P) (P6 : P ≤ 6) (hD : w 20 = D) (hy : ∀ l : Nat, l < u → w (σ 17 ((l : Int) * 8 + (u : Int))) = y l) (hnu : ∀ j, j < u + 1 → σ (s + 4) (d j : Nat) = nu j) (ha : ∀ j : Nat, j < u + 1 → σ 13 (j : Int) = a j) (hρ : ∀ j : Nat, j < u + 1 → σ 14 (j : Int) = ρ j) (F0 : 0 ≤ F) (F9 : 1000000000 * F < pw 12) (bD : -F ≤ D ∧ D ≤ F) (by' : ∀ l : Nat, l < u → -F ≤ y l ∧ y l ≤ F) (bn : ∀ j, j < u + 1 → -1000 ≤ nu j ∧ nu j ≤ 1000) (ba : ∀ j, j < u + 1 → -20000 ≤ a j ∧ a j ≤ 20000) (bρ : ∀ j, j < u + 1 → 0 ≤ ρ j ∧ ρ j ≤ 100000) (bW : 0 ≤ W ∧ W ≤ 600000)
    (h : ∀ σ' w', Ou 141 168 σ σ' → σ' 142 = σ 142 → σ' 141 6 = 1 → WN σ' w' → (∀ j : Nat, j < u + 1 → w' (153 + 2 * (d j : Nat)) = wts D P u y j) → (∀ s : Nat, s < 8 → C s = false → w' (153 + 2 * (s : Int)) = 0) → w' 147 = D * P → w' 151 = D * P * P → w' 143 = sm (fun j => wts D P u y j * nu j) (u + 1) → w' 145 = D * ρ 0 - sm (fun j => wts D P u y j * a j) (u + 1) → w' 149 = sm (fun j => wts D P u y j * ρ j) (u + 1) + (D * ρ 0 - sm (fun j => wts D P u y j * a j) (u + 1)) * P - D * W → T σ') :
    ZC X (rX0_take zN) mX0_take [(2, 141), (2, 11), (2, 16), (2, s), (0, W)] zN σ (zQv T) := by
  have zz := sl hs
  have k8 := cd.2.1
  have d8 : ∀ j, j < u + 1 → d j < 8 := fun j hj => (o.1 j hj).1
  have bDP : -(6 * F) ≤ D * P ∧ D * P ≤ 6 * F := by
    have := z_pb (x := P) (y := D) (A := 6) (F := F) (by omega) (by omega) bD.1 bD.2 F0
    rw [Int.mul_comm D]; exact this
  have bDPP : -(36 * F) ≤ D * P * P ∧ D * P * P ≤ 36 * F := by
    have := z_pb (x := P) (y := D * P) (A := 6) (F := 6 * F) (by omega) (by omega) bDP.1 bDP.2 (by omega)
    rw [Int.mul_comm (D * P)]; omega
  have wr : ∀ j, j < u + 1 → -(13 * F) ≤ wts D P u y j ∧ wts D P u y j ≤ 13 * F := fun j hj => wts_r (by omega) F0 bDP by' hj
  have n1 := wsum_r (n := u + 1) (K := 1000) (x := wts D P u y) (c := nu) k8 F0 (by decide) wr bn
  have n2 := wsum_r (n := u + 1) (K := 20000) (x := wts D P u y) (c := a) k8 F0 (by decide) wr ba
  have n3 := wsum_r (n := u + 1) (K := 100000) (x := wts D P u y) (c := ρ) k8 F0 (by decide) wr (fun j hj => by have := bρ j hj; omega)
  have bρ0 := bρ 0 (by omega)
  have bDr : -(100000 * F) ≤ D * ρ 0 ∧ D * ρ 0 ≤ 100000 * F := by
    have := z_pb (x := ρ 0) (y := D) (A := 100000) (F := F) (by omega) (by omega) bD.1 bD.2 F0
    rw [Int.mul_comm D]; exact this
  have bDW : -(600000 * F) ≤ D * W ∧ D * W ≤ 600000 * F := by
    have := z_pb (x := W) (y := D) (A := 600000) (F := F) (by omega) (by omega) bD.1 bD.2 F0
    rw [Int.mul_comm D]; exact this
  -- the last loop
  have loop : ∀ (r i : Nat) (τ : ZM) (v : Int → Int), i + r = u + 1 → Ou 141 168 σ τ → τ 142 = σ 142 → τ 141 6 = 1 → WN τ v → (∀ j : Nat, j < u + 1 → v (153 + 2 * (d j : Nat)) = wts D P u y j) → (∀ s : Nat, s < 8 → C s = false → v (153 + 2 * (s : Int)) = 0) → v 147 = D * P → v 151 = D * P * P → v 143 = sm (fun j => wts D P u y j * nu j) i → v 145 = D * ρ 0 - sm (fun j => wts D P u y j * a j) i → v 149 = sm (fun j => wts D P u y j * ρ j) i - D * W → Z X (rX0_take zN) mX0_take 115 [(2, 141), (2, 11), (9, 0), (2, s), (9, 0), (0, (i : Int)), (9, 0)] [] zN τ (zQv T) := by
    intro r
    induction r with
    | zero =>
      intro i τ v hi oo e142 e6 n vd vc v47 v51 v43 v45 v49
      have : i = u + 1 := by omega
      subst this
      have t4 : τ 11 4 = ((u + 1 : Nat) : Int) := by rw [oo 11 (by decide)]; exact cd.1
      have t5 : τ 11 5 = P := by rw [oo 11 (by decide)]; exact hP
      refine bk_X0_take_115 zz.1 ⟨by constructor <;> omega, by rw [t4]; constructor <;> omega, fun _ => ⟨n.1, ?_⟩, fun q => absurd (by rw [t4]; exact Int.le_refl _) q⟩
      rw [t5]
      have m1 := n2 (u + 1) (Nat.le_refl _)
      have m2 := n3 (u + 1) (Nat.le_refl _)
      have ev : v 149 + P * v 145 = sm (fun j => wts D P u y j * ρ j) (u + 1) + (D * ρ 0 - sm (fun j => wts D P u y j * a j) (u + 1)) * P - D * W := by
        rw [v49, v45, Int.mul_comm P]; omega
      have bp := z_pb (x := P) (y := D * ρ 0 - sm (fun j => wts D P u y j * a j) (u + 1)) (A := 6) (F := 3000000 * F) (by omega) (by omega) (by omega) (by omega) (by omega)
      rw [Int.mul_comm P] at bp
      refine w_add la_149 la_145 (by decide) n (by constructor <;> omega) (by rw [ev]; omega) (by rw [ev]; omega) (fun σ5 o5 n5 => ?_)
      rw [ev] at n5
      have dd : ∀ x : Int, 153 ≤ x → fu v 149 (sm (fun j => wts D P u y j * ρ j) (u + 1) + (D * ρ 0 - sm (fun j => wts D P u y j * a j) (u + 1)) * P - D * W) x = v x := fun x hx => fu_n _ _ (by omega)
      exact h σ5 _ (oo.trans (Ou.ofW o5 (by decide) (by decide))) (by rw [(Ou.ofW (lo := 149) (hi := 150) o5 (by decide) (by decide)) 142 (by decide), e142]) (by rw [(Ou.ofW (lo := 149) (hi := 150) o5 (by decide) (by decide)) 141 (by decide), e6]) n5 (fun j hj => by rw [dd _ (by omega)]; exact vd j hj) (fun s hs cs => by rw [dd _ (by omega)]; exact vc s hs cs) (by rw [fu_n _ _ (by decide)]; exact v47) (by rw [fu_n _ _ (by decide)]; exact v51) (by rw [fu_n _ _ (by decide)]; exact v43) (by rw [fu_n _ _ (by decide)]; exact v45) (fu_s _ _ _)
    | succ r ih =>
      intro i τ v hi oo e142 e6 n vd vc v47 v51 v43 v45 v49
      have t4 : τ 11 4 = ((u + 1 : Nat) : Int) := by rw [oo 11 (by decide)]; exact cd.1
      have di := cd.2.2.1 i (by omega)
      have dd := d8 i (by omega)
      have t12 : τ 12 (i : Int) = ((d i : Nat) : Int) := by rw [oo 12 (by decide)]; exact di.1
      have w142 : ∀ {μ : ZM}, μ 142 = σ 142 → μ 142 ((d i : Nat) : Int) = 153 + 2 * (d i : Nat) := fun {μ} e => by rw [e]; exact h142 _ (by omega) (by omega)
      have bni := bn i (by omega)
      have bai := ba i (by omega)
      have bρi := bρ i (by omega)
      refine bk_X0_take_115 zz.1 ⟨by constructor <;> omega, by rw [t4]; constructor <;> omega, fun q => absurd q (by rw [t4]; omega), fun _ => ?_⟩
      rw [t12, w142 e142, oo (s + 4) (by omega), hnu i (by omega)]
      refine ⟨n.1, by omega, by omega, by omega, by omega, ?_⟩
      have ev1 : v 143 + nu i * v (153 + 2 * (d i : Nat)) = sm (fun j => wts D P u y j * nu j) (i + 1) := by
        rw [v43, vd i (by omega), Int.mul_comm (nu i)]; rfl
      have m1 := n1 (i + 1) (by omega)
      refine w_add la_143 (la_w (by omega) (by omega)) (by omega) n (by constructor <;> omega) (by rw [ev1]; omega) (by rw [ev1]; omega) (fun σ12 o12 n12 => ?_)
      rw [ev1] at n12
      obtain ⟨v1, hv1⟩ : ∃ v1 : Int → Int, v1 = fu v 143 (sm (fun j => wts D P u y j * nu j) (i + 1)) := ⟨_, rfl⟩
      rw [← hv1] at n12
      have q1 : ∀ x : Int, x ≠ 143 → v1 x = v x := fun x hx => by rw [hv1, fu_n _ _ hx]
      have oo12 : Ou 141 168 σ σ12 := oo.trans (Ou.ofW o12 (by decide) (by decide))
      have oo12' := Ou.ofW (lo := 143) (hi := 144) o12 (by decide) (by decide)
      have e12 : σ12 142 = σ 142 := by rw [oo12' 142 (by decide), e142]
      rw [w142 e12, oo12 13 (by decide), ha i (by omega)]
      refine ⟨n12.1, by omega, by omega, by omega, ?_⟩
      have ev2 : v1 145 + -a i * v1 (153 + 2 * (d i : Nat)) = D * ρ 0 - sm (fun j => wts D P u y j * a j) (i + 1) := by
        rw [q1 145 (by decide), q1 _ (by omega), v45, vd i (by omega), Int.neg_mul, Int.mul_comm (a i)]
        show _ = D * ρ 0 - (sm _ i + wts D P u y i * a i)
        omega
      have m2 := n2 (i + 1) (by omega)
      refine w_add la_145 (la_w (by omega) (by omega)) (by omega) n12 (by constructor <;> omega) (by rw [ev2]; omega) (by rw [ev2]; omega) (fun σ18 o18 n18 => ?_)
      rw [ev2] at n18
      obtain ⟨v2, hv2⟩ : ∃ v2 : Int → Int, v2 = fu v1 145 (D * ρ 0 - sm (fun j => wts D P u y j * a j) (i + 1)) := ⟨_, rfl⟩
      rw [← hv2] at n18
      have q2 : ∀ x : Int, x ≠ 145 → v2 x = v1 x := fun x hx => by rw [hv2, fu_n _ _ hx]
      have oo18 : Ou 141 168 σ σ18 := oo12.trans (Ou.ofW o18 (by decide) (by decide))
      have oo18' := Ou.ofW (lo := 145) (hi := 146) o18 (by decide) (by decide)
      have e18 : σ18 142 = σ 142 := by rw [oo18' 142 (by decide), e12]
      rw [w142 e18, oo18 14 (by decide), hρ i (by omega)]
      refine ⟨n18.1, by omega, by omega, ?_⟩
      have ev3 : v2 149 + ρ i * v2 (153 + 2 * (d i : Nat)) = sm (fun j => wts D P u y j * ρ j) (i + 1) - D * W := by
        rw [q2 149 (by decide), q1 149 (by decide), q2 _ (by omega), q1 _ (by omega), v49, vd i (by omega), Int.mul_comm (ρ i)]
        show _ = sm _ i + wts D P u y i * ρ i - D * W
        omega
      have m3 := n3 (i + 1) (by omega)
      refine w_add la_149 (la_w (by omega) (by omega)) (by omega) n18 (by constructor <;> omega) (by rw [ev3]; omega) (by rw [ev3]; omega) (fun σ23 o23 n23 => ?_)
      rw [ev3] at n23
      have oo23' := Ou.ofW (lo := 149) (hi := 150) o23 (by decide) (by decide)
      have q3 : ∀ x : Int, x ≠ 143 → x ≠ 145 → x ≠ 149 → fu v2 149 (sm (fun j => wts D P u y j * ρ j) (i + 1) - D * W) x = v x := fun x h1 h2 h3 => by rw [fu_n _ _ h3, q2 x h2, q1 x h1]
      refine ih (i + 1) σ23 _ (by omega) (oo18.trans (Ou.ofW o23 (by decide) (by decide))) (by rw [oo23' 142 (by decide), e18]) (by rw [oo23' 141 (by decide), oo18' 141 (by decide), oo12' 141 (by decide), e6]) n23 (fun j hj => by rw [q3 _ (by omega) (by omega) (by omega)]; exact vd j hj) (fun s hs cs => by rw [q3 _ (by omega) (by omega) (by omega)]; exact vc s hs cs) (by rw [q3 147 (by decide) (by decide) (by decide)]; exact v47) (by rw [q3 151 (by decide) (by decide) (by decide)]; exact v51) ?_ ?_ (fu_s _ _ _)
      · rw [fu_n _ _ (by decide), q2 143 (by decide), hv1, fu_s]
      · rw [fu_n _ _ (by decide), hv2, fu_s]
  -- the beginning
  refine bk_X0_take zz.1 ⟨hn.1, w_put la_147 hn.z141 (by decide) (by decide) (fun σ3 o3 n3' => ⟨n3'.1, ?_⟩)⟩
  have k0 : Ou 141 168 σ (z_up σ 141 6 1) := Ou.rfl'.up (by decide) (by decide)
  have k3 : Ou 141 168 σ σ3 := k0.trans (Ou.ofW o3 (by decide) (by decide))
  have j3 := Ou.ofW (lo := 147) (hi := 148) o3 (by decide) (by decide)
  rw [k3 11 (by decide), hP]
  have c20 : fu w 147 0 20 = D := by rw [fu_n _ _ (by decide), hD]
  have ev : fu w 147 0 147 + P * fu w 147 0 20 = D * P := by rw [fu_s, c20, Int.mul_comm P]; omega
  refine w_add la_147 la_20 (by decide) n3' (by constructor <;> omega) (by rw [ev]; omega) (by rw [ev]; omega) (fun σ6 o6 n6 => ⟨n6.1, ?_⟩)
  rw [ev] at n6
  have k6 : Ou 141 168 σ σ6 := k3.trans (Ou.ofW o6 (by decide) (by decide))
  have j6 := Ou.ofW (lo := 147) (hi := 148) o6 (by decide) (by decide)
  refine w_put la_151 n6 (by decide) (by decide) (fun σ9 o9 n9 => ⟨n9.1, ?_⟩)
  have k9 : Ou 141 168 σ σ9 := k6.trans (Ou.ofW o9 (by decide) (by decide))
  have j9 := Ou.ofW (lo := 151) (hi := 152) o9 (by decide) (by decide)
  rw [k9 11 (by decide), hP]
  obtain ⟨v9, hv9⟩ : ∃ v9 : Int → Int, v9 = fu (fu (fu w 147 0) 147 (D * P)) 151 0 := ⟨_, rfl⟩
  rw [← hv9] at n9
  have x1 : v9 147 = D * P := by rw [hv9, fu_n _ _ (by decide), fu_s]
  have x2 : v9 151 = 0 := by rw [hv9, fu_s]
  have ev2 : v9 151 + P * v9 147 = D * P * P := by rw [x1, x2, Int.mul_comm P]; omega
  refine w_add la_151 la_147 (by decide) n9 (by constructor <;> omega) (by rw [ev2]; omega) (by rw [ev2]; omega) (fun σ12 o12 n12 => ?_)
  rw [ev2] at n12
  have k12 : Ou 141 168 σ σ12 := k9.trans (Ou.ofW o12 (by decide) (by decide))
  have j12 := Ou.ofW (lo := 151) (hi := 152) o12 (by decide) (by decide)
  obtain ⟨v12, hv12⟩ : ∃ v12 : Int → Int, v12 = fu v9 151 (D * P * P) := ⟨_, rfl⟩
  rw [← hv12] at n12
  have y1 : v12 147 = D * P := by rw [hv12, fu_n _ _ (by decide), x1]
  have y2 : v12 151 = D * P * P := by rw [hv12, fu_s]
  have yo : ∀ x : Int, x ≠ 147 → x ≠ 151 → v12 x = w x := fun x h1 h2 => by rw [hv12, fu_n _ _ h2, hv9, fu_n _ _ h2, fu_n _ _ h1, fu_n _ _ h1]
  have e142 : σ12 142 = σ 142 := by rw [j12 142 (by decide), j9 142 (by decide), j6 142 (by decide), j3 142 (by decide), z_up_far _ _ _ (by decide)]
  have e17 : σ12 17 = σ 17 := k12 17 (by decide)
  have e6 : σ12 141 6 = 1 := by rw [j12 141 (by decide), j9 141 (by decide), j6 141 (by decide), j3 141 (by decide), z_up_same]
  refine c_takeWeights (α := α) (C := C) (D := D) (P := P) (F := F) (y := y) n12 (by rw [e17]; exact hg) (fun i i0 i1 => by rw [e142]; exact h142 i i0 i1) o (cd.fr (by rw [k12 11 (by decide)]) (k12 12 (by decide))) y1 (fun l hl => ?_) F0 (by omega) bDP by' (fun σ14 w14 o14 n14 vd vc va => ⟨n14.1, ?_⟩)
  · have lp := hg.at (i := l) (j := u) (by omega) (by omega)
    rw [e17, yo _ (by omega) (by omega)]; exact hy l hl
  have k14 : Ou 141 168 σ σ14 := k12.trans (o14.mono (by decide) (by decide))
  refine w_put la_143 n14 (by decide) (by decide) (fun σ17 o17 n17 => ⟨n17.1, w_put la_145 n17 (by decide) (by decide) (fun σ20 o20 n20 => ⟨n20.1, ?_⟩)⟩)
  have j17 := Ou.ofW (lo := 143) (hi := 144) o17 (by decide) (by decide)
  have j20 := Ou.ofW (lo := 145) (hi := 146) o20 (by decide) (by decide)
  have k20 : Ou 141 168 σ σ20 := (k14.trans (j17.mono (by decide) (by decide))).trans (j20.mono (by decide) (by decide))
  rw [k20 14 (by decide), show σ 14 0 = ρ 0 from hρ 0 (by omega)]
  obtain ⟨v20, hv20⟩ : ∃ v20 : Int → Int, v20 = fu (fu w14 143 0) 145 0 := ⟨_, rfl⟩
  rw [← hv20] at n20
  have z20 : v20 20 = D := by rw [hv20, fu_n _ _ (by decide), fu_n _ _ (by decide), va 20 (by decide), yo 20 (by decide) (by decide), hD]
  have ev3 : v20 145 + ρ 0 * v20 20 = D * ρ 0 := by rw [z20, Int.mul_comm (ρ 0), hv20, fu_s]; omega
  refine w_add la_145 la_20 (by decide) n20 (by constructor <;> omega) (by rw [ev3]; omega) (by rw [ev3]; omega) (fun σ23 o23 n23 => ⟨n23.1, w_put la_149 n23 (by decide) (by decide) (fun σ26 o26 n26 => ⟨n26.1, ?_⟩)⟩)
  rw [ev3] at n26
  have j23 := Ou.ofW (lo := 145) (hi := 146) o23 (by decide) (by decide)
  have j26 := Ou.ofW (lo := 149) (hi := 150) o26 (by decide) (by decide)
  obtain ⟨v26, hv26⟩ : ∃ v26 : Int → Int, v26 = fu (fu v20 145 (D * ρ 0)) 149 0 := ⟨_, rfl⟩
  rw [← hv26] at n26
  have z26 : v26 20 = D := by rw [hv26, fu_n _ _ (by decide), fu_n _ _ (by decide), z20]
  have ev4 : v26 149 + -W * v26 20 = 0 - D * W := by rw [z26, Int.neg_mul, Int.mul_comm W, hv26, fu_s]; omega
  refine w_add la_149 la_20 (by decide) n26 (by constructor <;> omega) (by rw [ev4]; omega) (by rw [ev4]; omega) (fun σ29 o29 n29 => ?_)
  rw [ev4] at n29
  have j29 := Ou.ofW (lo := 149) (hi := 150) o29 (by decide) (by decide)
  have fin : ∀ x : Int, x ≠ 143 → x ≠ 145 → x ≠ 149 → fu v26 149 (0 - D * W) x = w14 x := fun x h1 h2 h3 => by rw [fu_n _ _ h3, hv26, fu_n _ _ h3, fu_n _ _ h2, hv20, fu_n _ _ h2, fu_n _ _ h1]
  refine loop (u + 1) 0 σ29 _ (by omega) (((k20.trans (j23.mono (by decide) (by decide))).trans (j26.mono (by decide) (by decide))).trans (j29.mono (by decide) (by decide))) ?_ ?_ n29 (fun j hj => by rw [fin _ (by omega) (by omega) (by omega)]; exact vd j hj) (fun s hs cs => by rw [fin _ (by omega) (by omega) (by omega)]; exact vc s hs cs) ?_ ?_ ?_ ?_ ?_
  · rw [j29 142 (by decide), j26 142 (by decide), j23 142 (by decide), j20 142 (by decide), j17 142 (by decide), o14 142 (by decide), e142]
  · rw [j29 141 (by decide), j26 141 (by decide), j23 141 (by decide), j20 141 (by decide), j17 141 (by decide), o14 141 (by decide), e6]
  · rw [fin 147 (by decide) (by decide) (by decide), va 147 (by decide), y1]
  · rw [fin 151 (by decide) (by decide) (by decide), va 151 (by decide), y2]
  · rw [fu_n _ _ (by decide), hv26, fu_n _ _ (by decide), fu_n _ _ (by decide), hv20, fu_n _ _ (by decide), fu_s]; rfl
  · rw [fu_n _ _ (by decide), hv26, fu_n _ _ (by decide), fu_s]
    exact (Int.sub_zero _).symm
  · rw [fu_s]; rfl
