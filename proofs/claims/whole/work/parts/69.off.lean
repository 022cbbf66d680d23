/-- one solution, whichever -/
noncomputable def cso (C : Nat → Bool) (G : Nat → Nat → Int) (ρ : Nat → Int) (P : Int) : (Nat → Int) × Int × Int := Classical.epsilon (fun p : (Nat → Int) × Int × Int => SolI C G ρ P p.1 p.2.1 p.2.2)
theorem cso_ok {C : Nat → Bool} {G : Nat → Nat → Int} {ρ : Nat → Int} {P : Int} {x : Nat → Int} {m D : Int} (h : SolI C G ρ P x m D) : SolI C G ρ P (cso C G ρ P).1 (cso C G ρ P).2.1 (cso C G ρ P).2.2 :=
  Classical.epsilon_spec (p := fun p : (Nat → Int) × Int × Int => SolI C G ρ P p.1 p.2.1 p.2.2) ⟨(x, m, D), h⟩
noncomputable def ofs (α : ZM) (l i : Int) : (Nat → Int) × Int × Int := cso (allBut (α 0 0).toNat i) (Gx α l 1) (rho α l (fun _ => α 1 i) (fun _ => α 2 i) 1) ((1 : Nat) : Int)
noncomputable def ofT (α : ZM) (l i : Int) : Int := (ofs α l i).2.2 * α 3 i - sm (fun t => if allBut (α 0 0).toNat i t then (ofs α l i).1 t * α 3 t else 0) 8
noncomputable def ofB (α : ZM) (l i : Int) : Int := (ofs α l i).2.2
/-- a place can be left out -/
def gd (α : ZM) (l i : Int) : Prop := 2 ≤ α 0 0 ∧ KFI (allBut (α 0 0).toNat i) (Gx α l 1)
theorem of_eqf {α : ZM} {l i : Int} {x : Nat → Int} {m D : Int} (s0 : (α 0 0).toNat ≤ 8) (hk : KFI (allBut (α 0 0).toNat i) (Gx α l 1)) (h : SolI (allBut (α 0 0).toNat i) (Gx α l 1) (rho α l (fun _ => α 1 i) (fun _ => α 2 i) 1) ((1 : Nat) : Int) x m D) (hc : ∃ s, s < 8 ∧ allBut (α 0 0).toNat i s = true) : eqf (D * α 3 i - sm (fun t => if allBut (α 0 0).toNat i t then x t * α 3 t else 0) 8) D (ofT α l i) (ofB α l i) := by
  have c := cso_ok h
  have e := SolI.same hk h c hc
  have cr := cross_sum e.1 (fun t => α 3 t)
  refine ⟨h.1, c.1, ?_⟩
  show _ * (ofs α l i).2.2 = ((ofs α l i).2.2 * α 3 i - sm (fun t => if allBut (α 0 0).toNat i t then (ofs α l i).1 t * α 3 t else 0) 8) * D
  have cr : (ofs α l i).2.2 * sm (fun t => if allBut (α 0 0).toNat i t then x t * α 3 t else 0) 8 = D * sm (fun t => if allBut (α 0 0).toNat i t then (ofs α l i).1 t * α 3 t else 0) 8 := cr
  rw [Int.sub_mul, Int.sub_mul]
  have a1 : D * α 3 i * (ofs α l i).2.2 = (ofs α l i).2.2 * α 3 i * D := by grind
  rw [a1, Int.mul_comm (sm (fun t => if allBut (α 0 0).toNat i t then x t * α 3 t else 0) 8), cr, Int.mul_comm D]
theorem allBut_two {n : Nat} {x : Int} (h : 2 ≤ n) : ∃ s, s < n ∧ allBut n x s = true := by
  by_cases q : x = 0
  · exact ⟨1, by omega, decide_eq_true ⟨by omega, by omega⟩⟩
  · exact ⟨0, by omega, decide_eq_true ⟨by omega, by omega⟩⟩
theorem cn_pos {C : Nat → Bool} {n s : Nat} (h : s < n) (hc : C s = true) : 1 ≤ cn C n := by
  have := cn_lt h hc; omega
theorem fa7b {n : Nat} (h : n ≤ 7) : 16000 * fa 300000 n < pw 6 := by
  have h1 := fa_mono (A := 300000) (by decide) h
  have h2 : 16000 * fa 300000 7 < pw 6 := by unfold pw; decide +kernel
  omega
/-- what the frame of a leaving out leaves -/
def Fl (σ σ' : ZM) : Prop := ∀ c : Int, c < 8 ∨ (140 < c ∧ c < 184) ∨ 188 < c → σ' c = σ c
theorem Fl.trans {σ σ1 σ2 : ZM} (h1 : Fl σ σ1) (h2 : Fl σ1 σ2) : Fl σ σ2 := fun c h => (h2 c h).trans (h1 c h)
theorem Fl.ou {σ σ' : ZM} (h : Fl σ σ') : Ou 1 210 σ σ' := fun c hc => h c (by omega)
theorem CS.fl {σ σ' α : ZM} (h : CS σ α) (b : CB σ') (o : Fl σ σ') : CS σ' α := h.tmp b (fun c hc => o c (by have := h.2.2.1.1; omega))
theorem pw_mul {n : Nat} : pw n < pw (n + 1) := by rw [pw_s]; have := pw_pos n; omega
theorem c_tellOff {X : ZS} {σ α : ZM} {T : ZM → Prop} {w : Int → Int} {k : Nat} {d : Nat → Nat} {i : Int} {y : Nat → Int} (cs : CS σ α) (ok : Ok α) (hn : WN σ w) (cd : CD σ α k d) (k1 : 1 ≤ k) (i0 : 0 ≤ i) (i1 : i < α 0 0) (hy : ∀ l : Nat, l < k - 1 → w (σ 17 ((l : Int) * 8 + ((k - 1 : Nat) : Int))) = y l) (bD : -fa 300000 (k - 1) ≤ w 20 ∧ w 20 ≤ fa 300000 (k - 1)) (by' : ∀ l : Nat, l < k - 1 → -fa 300000 (k - 1) ≤ y l ∧ y l ≤ fa 300000 (k - 1))
    (h : ∀ σ', CB σ' → Ou 185 188 σ σ' → wv σ' 187 = w 20 → wv σ' 185 = w 20 * (α 3 i - α 3 (d 0)) + sm (fun l => y l * (α 3 (d 0) - α 3 (d (l + 1)))) (k - 1) → T σ') : ZC X (rX2_tellOff zN) mX2_tellOff [(2, 11), (2, 16), (2, σ 1 11), (0, i), (2, 184)] zN σ (zQv T) := by
  have s8 := ok.s
  have k8 := cd.2.1
  have g := cs.2.2.1
  have pl := g.pl ok
  have zz := sl (s := σ 1 11) (by have := g.1; omega)
  obtain ⟨s, hs⟩ : ∃ s, s = σ 1 11 := ⟨_, rfl⟩
  have hsv : s = 199 ∨ s = 205 := by have := g.1; omega
  have gr := g.2.2
  rw [← hs] at pl zz gr ⊢
  have d0 := cd.2.2.1 0 (by omega)
  have d00 : σ 12 0 = ((d 0 : Nat) : Int) := d0.1
  obtain ⟨F, hF⟩ : ∃ F, F = fa 300000 (k - 1) := ⟨_, rfl⟩
  have fb : 16000 * F < pw 6 := by rw [hF]; exact fa7b (by omega)
  have Fp : 0 < F := by rw [hF]; exact fa_pos (by decide) _
  rw [← hF] at bD by'
  have p6 : pw 6 < pw 12 := by unfold pw; decide +kernel
  have ni := (ok.g i i0 i1).2.2.1
  have n0 := (ok.g (d 0 : Nat) (by omega) d0.2).2.2.1
  have tm : ∀ l : Nat, l < k - 1 → -(2000 * F) ≤ y l * (α 3 (d 0) - α 3 (d (l + 1))) ∧ y l * (α 3 (d 0) - α 3 (d (l + 1))) ≤ 2000 * F := fun l hl => by
    have nl := (ok.g (d (l + 1) : Nat) (by omega) (cd.2.2.1 (l + 1) (by omega)).2).2.2.1
    have := by' l hl
    have p := z_pb (x := α 3 (d 0) - α 3 (d (l + 1))) (y := y l) (A := 2000) (F := F) (by omega) (by omega) (by omega) (by omega) (by omega)
    rw [Int.mul_comm (y l)]; exact p
  have t0 : -(2000 * F) ≤ w 20 * (α 3 i - α 3 (d 0)) ∧ w 20 * (α 3 i - α 3 (d 0)) ≤ 2000 * F := by
    have p := z_pb (x := α 3 i - α 3 (d 0)) (y := w 20) (A := 2000) (F := F) (by omega) (by omega) (by omega) (by omega) (by omega)
    rw [Int.mul_comm (w 20)]; exact p
  have part : ∀ j : Nat, j ≤ k - 1 → -(16000 * F) ≤ w 20 * (α 3 i - α 3 (d 0)) + sm (fun l => y l * (α 3 (d 0) - α 3 (d (l + 1)))) j ∧ w 20 * (α 3 i - α 3 (d 0)) + sm (fun l => y l * (α 3 (d 0) - α 3 (d (l + 1)))) j ≤ 16000 * F := fun j hj => by
    have sa := sm_abs (f := fun l => y l * (α 3 (d 0) - α 3 (d (l + 1)))) (B := 2000 * F) (n := j) (fun l hl => tm l (by omega))
    have jj : (j : Int) * (2000 * F) ≤ 7 * (2000 * F) := Int.mul_le_mul_of_nonneg_right (by omega) (by omega)
    omega
  refine bk_X2_tellOff zz.1 la_184 ⟨hn.1, by rw [cd.1]; constructor <;> omega, fun q => absurd q (by rw [cd.1]; omega), fun _ => c_phas pl.2.1 (by constructor <;> omega) pl.2.2.2.2.1 (by constructor <;> omega) (fun _ _ => ⟨fun _ => ?_, fun q => (by cases q)⟩) (fun q => absurd ⟨i0, by omega⟩ q)⟩
  rw [d00, (gr (d 0 : Nat) (by omega) d0.2).2.2.1]
  refine ⟨hn.1, by omega, by omega, ?_⟩
  refine w_copy (a := 187) la_187 la_20 (by decide) hn (fun σ9 o9 n9 => ⟨n9.1, w_put (a := 185) la_185 n9 (by decide) (by decide) (fun σ12 o12 n12 => ⟨n12.1, i0, by omega, ?_⟩)⟩)
  have ou12 : Ou 185 188 σ σ12 := (Ou.ofW o9 (by decide) (by decide)).trans (Ou.ofW o12 (by decide) (by decide))
  rw [ou12 (s + 4) (by omega), (gr i i0 i1).2.2.1]
  obtain ⟨w12, hw12⟩ : ∃ w12 : Int → Int, w12 = fu (fu w 187 (w 20)) 185 0 := ⟨_, rfl⟩
  rw [← hw12] at n12
  have a185 : w12 185 = 0 := by rw [hw12, fu_s]
  have a20 : w12 20 = w 20 := by rw [hw12, fu_n _ _ (by decide), fu_n _ _ (by decide)]
  have a187 : w12 187 = w 20 := by rw [hw12, fu_n _ _ (by decide), fu_s]
  have aG : ∀ a : Int, a < 185 → w12 a = w a := fun a ha => by rw [hw12, fu_n _ _ (by omega), fu_n _ _ (by omega)]
  have e0 : w12 185 + (α 3 i - α 3 (d 0)) * w12 20 = w 20 * (α 3 i - α 3 (d 0)) := by rw [a185, a20, Int.zero_add, Int.mul_comm]
  refine w_add (a := 185) (b := 20) la_185 la_20 (by decide) n12 (by constructor <;> omega) (by rw [e0]; omega) (by rw [e0]; omega) (fun σ17 o17 n17 => ?_)
  rw [e0] at n17
  have loop : ∀ (r j : Nat) (τ : ZM) (u : Int → Int), j + r = k - 1 → Ou 185 188 σ τ → WN τ u → (∀ a : Int, a < 185 → u a = w a) → u 187 = w 20 → u 185 = w 20 * (α 3 i - α 3 (d 0)) + sm (fun l => y l * (α 3 (d 0) - α 3 (d (l + 1)))) j → Z X (rX2_tellOff zN) mX2_tellOff 80 [(2, 11), (2, 16), (9, 0), (9, 0), (2, 184), (2, s + 4), (0, α 3 (d 0)), (0, ((j + 1 : Nat) : Int))] [] zN τ (zQv T) := by
    intro r
    induction r with
    | zero =>
      intro j τ u hj o n ua u7 u5
      have : j = k - 1 := by omega
      subst this
      have t4 : τ 11 4 = k := by rw [o 11 (by decide)]; exact cd.1
      refine bk_X2_tellOff_80 la_184 zz.2.2.2.2.1 ⟨by constructor <;> omega, by rw [t4]; constructor <;> omega, fun _ => h τ ⟨n.1, n.2.1, by rw [o 17 (by decide)]; exact cs.1.2.2.1, fun i i0 i1 => by rw [o 142 (by decide)]; exact cs.1.2.2.2 i i0 i1⟩ o ?_ ?_, fun q => absurd (by rw [t4]; omega) q⟩
      · rw [n.val la_187]; exact u7
      · rw [n.val la_185]; exact u5
    | succ r ih =>
      intro j τ u hj o n ua u7 u5
      have t4 : τ 11 4 = k := by rw [o 11 (by decide)]; exact cd.1
      have e17 : τ 17 = σ 17 := o 17 (by decide)
      have dj := cd.2.2.1 (j + 1) (by omega)
      refine bk_X2_tellOff_80 la_184 zz.2.2.2.2.1 ⟨by constructor <;> omega, by rw [t4]; constructor <;> omega, fun q => absurd q (by rw [t4]; omega), fun _ => ⟨n.1, ?_⟩⟩
      rw [t4, show ((j + 1 : Nat) : Int) - 1 = (j : Int) by omega, show (k : Int) - 1 = ((k - 1 : Nat) : Int) by omega]
      refine c_cell (by omega) (by omega) n.1 ?_
      rw [o 12 (by decide), dj.1, o (s + 4) (by omega), (gr (d (j + 1) : Nat) (by omega) dj.2).2.2.1, e17]
      have lp := cs.1.2.2.1.at (i := j) (j := k - 1) (by omega) (by omega)
      have nj := (ok.g (d (j + 1) : Nat) (by omega) dj.2).2.2.1
      have ev : u 185 + (α 3 (d 0) - α 3 (d (j + 1))) * u (σ 17 ((j : Int) * 8 + ((k - 1 : Nat) : Int))) = w 20 * (α 3 i - α 3 (d 0)) + sm (fun l => y l * (α 3 (d 0) - α 3 (d (l + 1)))) (j + 1) := by
        rw [u5, ua _ (by omega), hy j (by omega), Int.mul_comm (α 3 (d 0) - α 3 (d (j + 1)))]
        show _ = _ + (sm _ j + y j * (α 3 (d 0) - α 3 (d (j + 1))))
        omega
      have pt := part (j + 1) (by omega)
      refine ⟨n.1, by omega, by omega, by omega, by omega, w_add (a := 185) la_185 lp.1 (by omega) n (by constructor <;> omega) (by rw [ev]; omega) (by rw [ev]; omega) (fun σ' o' n' => ?_)⟩
      rw [ev] at n'
      exact ih (j + 1) σ' _ (by omega) (o.trans (Ou.ofW o' (by decide) (by decide))) n' (fun a ha => by rw [fu_n _ _ (by omega)]; exact ua a ha) (by rw [fu_n _ _ (by decide)]; exact u7) (fu_s _ _ _)
  exact loop (k - 1) 0 σ17 _ (by omega) (ou12.trans (Ou.ofW o17 (by decide) (by decide))) n17 (fun a ha => by rw [fu_n _ _ (by omega)]; exact aG a ha) (by rw [fu_n _ _ (by decide)]; exact a187) (by rw [fu_s]; exact (Int.add_zero _).symm)
