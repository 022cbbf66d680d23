def uw (α : ZM) (l : Int) (f g : Int → Int) (q : Nat) : Int := sm (fun p => sm (fun r => α 5 (81 * l + wyp (f p) (g p) (f r) (g r))) q) q
theorem uw_in {α : ZM} {l : Int} {f g : Int → Int} {q : Nat} (ok : Ok α) (l0 : 0 ≤ l) (l1 : l < α 0 1) (hq : ∀ i : Int, 0 ≤ i → i < q → (-20 ≤ f i ∧ f i ≤ 20) ∧ (-20 ≤ g i ∧ g i ≤ 20)) (p r : Nat) (hp : p < q) (hr : r < q) : (0 ≤ wyp (f p) (g p) (f r) (g r) ∧ wyp (f p) (g p) (f r) (g r) ≤ 80) ∧ 0 ≤ α 5 (81 * l + wyp (f p) (g p) (f r) (g r)) ∧ α 5 (81 * l + wyp (f p) (g p) (f r) (g r)) ≤ 16000 := by
  have a := hq p (by omega) (by omega)
  have b := hq r (by omega) (by omega)
  have w := wyp_r a.1 a.2 b.1 b.2
  exact ⟨w, (ok.w l _ l0 l1 w.1 w.2).1⟩
theorem uw_r {α : ZM} {l : Int} {f g : Int → Int} {q : Nat} (ok : Ok α) (l0 : 0 ≤ l) (l1 : l < α 0 1) (q6 : q ≤ 6) (hq : ∀ i : Int, 0 ≤ i → i < q → (-20 ≤ f i ∧ f i ≤ 20) ∧ (-20 ≤ g i ∧ g i ≤ 20)) : 0 ≤ uw α l f g q ∧ uw α l f g q ≤ 600000 := by
  have h := sm_rng (F := fun p => sm (fun r => α 5 (81 * l + wyp (f p) (g p) (f r) (g r))) q) (B := 96000) (by decide) (n := q) (fun p hp => by
    have := sm_rng (F := fun r : Nat => α 5 (81 * l + wyp (f p) (g p) (f r) (g r))) (B := 16000) (by decide) (n := q) (fun r hr => (uw_in ok l0 l1 hq p r hp hr).2)
    omega)
  unfold uw
  omega
theorem c_unlikeWithin {X : ZS} {σ α : ZM} {T : Int → ZM → Prop} {l : Int} {q : Nat} {f g : Int → Int} (cs : CS σ α) (ok : Ok α) (l0 : 0 ≤ l) (l1 : l < α 0 1) (Q : PL σ 8 6 q f g) (h : T (uw α l f g q) σ) : ZC X (rX2_unlikeWithin zN) mX2_unlikeWithin [(2, 11), (2, 8), (2, 6), (0, l)] zN σ (zQi T) := by
  have q6 : q ≤ 6 := Q.2.2.2.2.1
  have qz := Q.2.2.2.1
  have hq : ∀ i : Int, 0 ≤ i → i < q → (-20 ≤ f i ∧ f i ≤ 20) ∧ (-20 ≤ g i ∧ g i ≤ 20) := fun i i0 i1 => (Q.2.2.2.2.2.2 i i0 i1).2.2
  have outer : ∀ (r p : Nat), p + r = q → Z X (rX2_unlikeWithin zN) mX2_unlikeWithin 6 [(9, 0), (2, 8), (2, 6), (0, l), (0, sm (fun p => sm (fun r => α 5 (81 * l + wyp (f p) (g p) (f r) (g r))) q) p), (0, (p : Int)), (9, 0)] [] zN σ (zQi T) := by
    intro r
    induction r with
    | zero =>
      intro p hp
      have : p = q := by omega
      subst this
      exact bk_X2_unlikeWithin_6 la_8 ⟨by constructor <;> omega, by rw [qz]; constructor <;> omega, fun _ => h, fun q => absurd (by rw [qz]; exact Int.le_refl _) q⟩
    | succ r ih =>
      intro p hp
      have inner : ∀ (e j : Nat), j + e = q → Z X (rX2_unlikeWithin zN) mX2_unlikeWithin 18 [(9, 0), (2, 8), (2, 6), (0, l), (0, sm (fun p => sm (fun r => α 5 (81 * l + wyp (f p) (g p) (f r) (g r))) q) p + sm (fun r => α 5 (81 * l + wyp (f p) (g p) (f r) (g r))) j), (0, (p : Int)), (0, (j : Int))] [] zN σ (zQi T) := by
        intro e
        induction e with
        | zero =>
          intro j hj
          have : j = q := by omega
          subst this
          exact bk_X2_unlikeWithin_18 la_8 ⟨by constructor <;> omega, by rw [qz]; constructor <;> omega, fun _ => ih (p + 1) (by omega), fun q => absurd (by rw [qz]; exact Int.le_refl _) q⟩
        | succ e ih2 =>
          intro j hj
          have w := uw_in ok l0 l1 hq p j (by omega) (by omega)
          refine bk_X2_unlikeWithin_18 la_8 ⟨by constructor <;> omega, by rw [qz]; constructor <;> omega, fun q => absurd q (by rw [qz]; omega), fun _ => c_way Q cs.fix (by omega) (by omega) (by omega) (by omega) (c_tell l0 l1 w.1.1 w.1.2 cs.fix cs.2.2.2.1 ok ?_)⟩
          have nx := ih2 (j + 1) (by omega)
          rw [show sm (fun r => α 5 (81 * l + wyp (f p) (g p) (f r) (g r))) (j + 1) = sm (fun r => α 5 (81 * l + wyp (f p) (g p) (f r) (g r))) j + α 5 (81 * l + wyp (f p) (g p) (f j) (g j)) from rfl, ← Int.add_assoc] at nx
          exact nx
      have := inner q 0 (by omega)
      rw [show sm (fun r => α 5 (81 * l + wyp (f p) (g p) (f r) (g r))) 0 = 0 from rfl, Int.add_zero] at this
      exact bk_X2_unlikeWithin_6 la_8 ⟨by constructor <;> omega, by rw [qz]; constructor <;> omega, fun q => absurd q (by rw [qz]; omega), fun _ => this⟩
  exact bk_X2_unlikeWithin la_8 (outer q 0 (by omega))
/-- somebody is the nearest -/
theorem nr_min (F : Int → Int) : ∀ n : Nat, 1 ≤ n → ∃ s : Nat, s < n ∧ ∀ j : Nat, j < n → ¬ (F j < F s ∨ F j = F s ∧ (j : Int) < s)
  | 0, h => by omega
  | n + 1, _ => by
    by_cases n0 : n = 0
    · subst n0
      refine ⟨0, by omega, fun j hj => ?_⟩
      have : j = 0 := by omega
      subst this
      omega
    · obtain ⟨s, s1, s2⟩ := nr_min F n (by omega)
      by_cases q : F n < F s
      · refine ⟨n, by omega, fun j hj => ?_⟩
        by_cases e : j = n
        · subst e; omega
        · have := s2 j (by omega); omega
      · refine ⟨s, by omega, fun j hj => ?_⟩
        by_cases e : j = n
        · subst e; omega
        · exact s2 j (by omega)
theorem rk_zero {F : Int → Int} {s : Int} : ∀ {n : Nat}, (∀ j : Nat, j < n → ¬ (F j < F s ∨ F j = F s ∧ (j : Int) < s)) → rk F s n = 0
  | 0, _ => rfl
  | n + 1, h => by
    show rk F s n + _ = 0
    rw [if_neg (h n (by omega)), rk_zero (fun j hj => h j (by omega))]; rfl
theorem near_ex {F : Int → Int} {n : Nat} {m : Int} (hn : 1 ≤ n) (hm : 1 ≤ m) : ∃ s, s < n ∧ near F n m s = true := by
  obtain ⟨s, s1, s2⟩ := nr_min F n hn
  exact ⟨s, s1, decide_eq_true ⟨s1, by rw [rk_zero s2]; omega⟩⟩
def nC (α : ZM) (f g : Int → Int) (q : Nat) : Nat → Bool := near (fun s => sw (α 1 s) (α 2 s) f g q) (α 0 0).toNat (α 0 3)
noncomputable def gso (α : ZM) (f g : Int → Int) (q : Nat) : (Nat → Int) × Int × Int := cso (nC α f g q) (Gx α (α 0 2) 1) (rho α (α 0 2) f g q) (q : Int)
noncomputable def anT (α : ZM) (f g : Int → Int) (q : Nat) (k : Int) : Int := if k = 0 then sm (fun t => if nC α f g q t then (gso α f g q).1 t * α 3 t else 0) 8 else if k = 1 then sm (fun t => if nC α f g q t then (gso α f g q).1 t * rho α (α 0 2) f g q t else 0) 8 + (gso α f g q).2.1 * q - (gso α f g q).2.2 * uw α (α 0 2) f g q else if k = 2 then (gso α f g q).2.1 else if nC α f g q (k - 3).toNat then (gso α f g q).1 (k - 3).toNat else 0
noncomputable def anB (α : ZM) (f g : Int → Int) (q : Nat) (k : Int) : Int := if k = 1 then (gso α f g q).2.2 * q * q else (gso α f g q).2.2 * q
noncomputable def s_ans (α : ZM) (f g : Int → Int) (q : Nat) : ZM := rp (rp (rp α 0 (fu (α 0) 4 1)) 9 (anT α f g q)) 10 (anB α f g q)
def kG (α : ZM) (f g : Int → Int) (q : Nat) : Prop := KFI (nC α f g q) (Gx α (α 0 2) 1)
noncomputable def o_guess (α : ZM) (f g : Int → Int) (q : Nat) : Int := @ite Int (kG α f g q) (Classical.propDecidable _) 0 (-7)
noncomputable def s_guess (α : ZM) (f g : Int → Int) (q : Nat) : ZM := @ite ZM (kG α f g q) (Classical.propDecidable _) (s_ans α f g q) α
theorem ok_guess {α : ZM} {f g : Int → Int} {q : Nat} (ok : Ok α) : Ok (s_guess α f g q) := by
  unfold s_guess
  by_cases h : kG α f g q
  · rw [if_pos h]
    exact ⟨ok.s, ok.l, ok.u, ok.n, Or.inr rfl, ok.g, ok.w, ok.e, ok.r⟩
  · rw [if_neg h]; exact ok
/-- fractions of one solution are those of another -/
theorem an_eqf {α : ZM} {f g : Int → Int} {q : Nat} {x : Nat → Int} {m D : Int} (q1 : 1 ≤ q) (hk : kG α f g q) (hc : ∃ s, s < 8 ∧ nC α f g q s = true) (h : SolI (nC α f g q) (Gx α (α 0 2) 1) (rho α (α 0 2) f g q) (q : Int) x m D) :
    eqf (sm (fun t => if nC α f g q t then x t * α 3 t else 0) 8) (D * q) (anT α f g q 0) (anB α f g q 0) ∧ eqf (sm (fun t => if nC α f g q t then x t * rho α (α 0 2) f g q t else 0) 8 + m * q - D * uw α (α 0 2) f g q) (D * q * q) (anT α f g q 1) (anB α f g q 1) ∧ eqf m (D * q) (anT α f g q 2) (anB α f g q 2) ∧ ∀ s : Nat, s < 8 → (nC α f g q s = true → eqf (x s) (D * q) (anT α f g q (3 + s)) (anB α f g q (3 + s))) ∧ (nC α f g q s = false → ∀ b, b ≠ 0 → eqf 0 b (anT α f g q (3 + s)) (anB α f g q (3 + s))) := by
  have c := cso_ok h
  have e := SolI.same hk h c hc
  have c1 := cross_sum e.1 (fun t => α 3 t)
  have c2 := cross_sum e.1 (fun t => rho α (α 0 2) f g q t)
  have Dq : D * (q : Int) ≠ 0 := Int.mul_ne_zero h.1 (by omega)
  have Eq : (gso α f g q).2.2 * (q : Int) ≠ 0 := Int.mul_ne_zero c.1 (by omega)
  have Dqq : D * (q : Int) * q ≠ 0 := Int.mul_ne_zero Dq (by omega)
  have Eqq : (gso α f g q).2.2 * (q : Int) * q ≠ 0 := Int.mul_ne_zero Eq (by omega)
  have e1 : ∀ s, s < 8 → nC α f g q s = true → (gso α f g q).2.2 * x s = D * (gso α f g q).1 s := e.1
  have e2 : (gso α f g q).2.2 * m = D * (gso α f g q).2.1 := e.2
  have c1 : (gso α f g q).2.2 * sm (fun t => if nC α f g q t then x t * α 3 t else 0) 8 = D * sm (fun t => if nC α f g q t then (gso α f g q).1 t * α 3 t else 0) 8 := c1
  have c2 : (gso α f g q).2.2 * sm (fun t => if nC α f g q t then x t * rho α (α 0 2) f g q t else 0) 8 = D * sm (fun t => if nC α f g q t then (gso α f g q).1 t * rho α (α 0 2) f g q t else 0) 8 := c2
  have b3 : ∀ k : Int, k ≠ 1 → anB α f g q k = (gso α f g q).2.2 * q := fun k hk => by unfold anB; rw [if_neg hk]
  have cr : ∀ t t' : Int, (gso α f g q).2.2 * t = D * t' → t * ((gso α f g q).2.2 * q) = t' * (D * q) := fun t t' h => by
    have a1 : t * ((gso α f g q).2.2 * q) = (gso α f g q).2.2 * t * q := by grind
    rw [a1, h]; grind
  refine ⟨⟨Dq, by rw [b3 0 (by decide)]; exact Eq, ?_⟩, ⟨Dqq, by unfold anB; rw [if_pos rfl]; exact Eqq, ?_⟩, ⟨Dq, by rw [b3 2 (by decide)]; exact Eq, ?_⟩, fun s hs => ⟨fun cs => ⟨Dq, by rw [b3 _ (by omega)]; exact Eq, ?_⟩, fun cs b hb => ⟨hb, by rw [b3 _ (by omega)]; exact Eq, ?_⟩⟩⟩
  · rw [b3 0 (by decide)]
    have t0 : anT α f g q 0 = sm (fun t => if nC α f g q t then (gso α f g q).1 t * α 3 t else 0) 8 := by unfold anT; rw [if_pos rfl]
    rw [t0]; exact cr _ _ c1
  · have t1 : anT α f g q 1 = sm (fun t => if nC α f g q t then (gso α f g q).1 t * rho α (α 0 2) f g q t else 0) 8 + (gso α f g q).2.1 * q - (gso α f g q).2.2 * uw α (α 0 2) f g q := by unfold anT; rw [if_neg (by decide), if_pos rfl]
    have b1 : anB α f g q 1 = (gso α f g q).2.2 * q * q := by unfold anB; rw [if_pos rfl]
    rw [t1, b1]
    have key := cr (sm (fun t => if nC α f g q t then x t * rho α (α 0 2) f g q t else 0) 8 + m * q - D * uw α (α 0 2) f g q) (sm (fun t => if nC α f g q t then (gso α f g q).1 t * rho α (α 0 2) f g q t else 0) 8 + (gso α f g q).2.1 * q - (gso α f g q).2.2 * uw α (α 0 2) f g q) (by
      rw [Int.mul_sub, Int.mul_sub, Int.mul_add, Int.mul_add, c2, ← Int.mul_assoc, e2, ← Int.mul_assoc, ← Int.mul_assoc, Int.mul_comm (gso α f g q).2.2 D, ← Int.mul_assoc])
    rw [← Int.mul_assoc _ ((gso α f g q).2.2 * (q : Int)) (q : Int), key, Int.mul_assoc _ (D * (q : Int)) (q : Int)]
  · rw [b3 2 (by decide)]
    have t2 : anT α f g q 2 = (gso α f g q).2.1 := by unfold anT; rw [if_neg (by decide), if_neg (by decide), if_pos rfl]
    rw [t2]; exact cr _ _ e2
  · rw [b3 _ (by omega)]
    have t3 : anT α f g q (3 + s) = (gso α f g q).1 s := by
      unfold anT
      rw [if_neg (by omega), if_neg (by omega), if_neg (by omega), show (3 + (s : Int) - 3).toNat = s by omega, if_pos cs]
    rw [t3]; exact cr _ _ (e1 s hs cs)
  · have t3 : anT α f g q (3 + s) = 0 := by
      unfold anT
      rw [if_neg (by omega), if_neg (by omega), if_neg (by omega), show (3 + (s : Int) - 3).toNat = s by omega, cs]; rfl
    rw [t3, Int.zero_mul, Int.zero_mul]
