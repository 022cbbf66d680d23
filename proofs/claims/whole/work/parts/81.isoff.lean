theorem fa9b : 1000000000 * fa 100000 9 < pw 7 := by unfold pw; decide +kernel
theorem fa9n {n : Nat} (h : n ≤ 9) : 0 < fa 100000 n ∧ 1000000000 * fa 100000 n < pw 7 := by
  have h1 := fa_mono (A := 100000) (by decide) h
  have := fa_pos (A := 100000) (by decide) n
  have := fa9b
  omega
theorem pw7_15 : pw 7 * 1000000000 < pw 15 := by unfold pw; decide +kernel
theorem m_told1 {X : ZS} {σ : ZM} {T : Int → ZM → Prop} {c k : Nat} (hf : Fix σ) (hc : c < 10) (hr : σ 224 (c : Int) = c) (hk : σ 211 26 = k) (h : T (20 + 10 * (c : Int) + ((k + 1 : Nat) : Int)) σ) : ZC X (rX12_told zN) mX12_told [(2, 211), (0, (c : Int))] zN σ (zQi T) := by
  refine bk_X12_told ⟨hf, by omega, by omega, bk_X12_cell ?_⟩
  rw [hr, hk]; exact h
theorem m_guess {X : ZS} {σ α : ZM} {T : ZM → Prop} {v : Int → Int} {p F : Int} {k : Nat} {d : Nat → Nat} (hN : NM σ v) (mg : MG σ α) (ok : Ok α) (D : MD σ α k d) (hr : ∀ c : Nat, c < k + 1 → σ 224 (c : Int) = c) (p0 : 0 ≤ p) (p1 : p < 20 ∨ 110 ≤ p) (p2 : p < 132) (F0 : 0 ≤ F) (F9 : 1000000000 * F < pw 7) (hb : ∀ i : Nat, i < k + 1 → -F ≤ v (20 + 10 * i + ((k + 1 : Nat) : Int)) ∧ v (20 + 10 * i + ((k + 1 : Nat) : Int)) ≤ F)
    (h : ∀ σ', Mo σ σ' → NM σ' (fu v p (sm (fun j => v (20 + 10 * (j : Nat) + ((k + 1 : Nat) : Int)) * α 3 (d j)) k)) → T σ') : ZC X (rX12_guess zN) mX12_guess [(2, 211), (0, p)] zN σ (zQv T) := by
  have s8 := ok.s
  have k8 := D.2.1
  have p715 := pw7_15
  have p7 : 0 < pw 7 := pw_pos 7
  have bn : ∀ j : Nat, j < k → -1000 ≤ α 3 (d j) ∧ α 3 (d j) ≤ 1000 := fun j hj => (ok.g (d j : Nat) (by omega) (D.2.2.1 j hj).2).2.2.1
  have pb := wsum_r (n := k) (K := 1000) (F := F) (x := fun j => v (20 + 10 * (j : Nat) + ((k + 1 : Nat) : Int))) (c := fun j => α 3 (d j)) k8 F0 (by decide) (fun j hj => by have := hb j (by omega); omega) bn
  have loop : ∀ (r j : Nat) (τ : ZM) (w : Int → Int), j + r = k → Mo σ τ → NM τ w → w p = sm (fun j => v (20 + 10 * (j : Nat) + ((k + 1 : Nat) : Int)) * α 3 (d j)) j → (∀ a : Int, a ≠ p → w a = v a) → Z X (rX12_guess zN) mX12_guess 8 [(2, 211), (0, p), (0, (j : Int))] [] zN τ (zQv T) := by
    intro r
    induction r with
    | zero =>
      intro j τ w hj o nm wp wa
      have : j = k := by omega
      subst this
      have t26 := (D.mz (Mz.ofO o)).1
      refine bk_X12_guess_8 ⟨by constructor <;> omega, by rw [t26]; constructor <;> omega, fun _ => h τ o (nm.congr (fun a _ _ => ?_)), fun q => absurd (by rw [t26]; exact Int.le_refl _) q⟩
      by_cases q : a = p
      · subst q; rw [fu_s, wp]
      · rw [fu_n _ _ q, wa a q]
    | succ r ih =>
      intro j τ w hj o nm wp wa
      have Dt := D.mz (Mz.ofO o)
      have t26 := Dt.1
      have dj := Dt.2.2.1 j (by omega)
      have mgt := mg.mw (Mz.ofO o).mw
      have nj := bn j (by omega)
      have e224 : τ 224 (j : Int) = j := by rw [o 224 (by decide) (by decide) (by decide) (by decide)]; exact hr j (by omega)
      refine bk_X12_guess_8 ⟨by constructor <;> omega, by rw [t26]; constructor <;> omega, fun q => absurd q (by rw [t26]; omega), fun _ => m_told1 nm.1 (by omega) e224 t26 ?_⟩
      rw [dj.1, (mgt.2 (d j : Nat) (by omega) dj.2).2.2.1]
      have ev : w p + w (20 + 10 * (j : Int) + ((k + 1 : Nat) : Int)) * α 3 (d j) = sm (fun j => v (20 + 10 * (j : Nat) + ((k + 1 : Nat) : Int)) * α 3 (d j)) (j + 1) := by
        rw [wp, wa _ (by omega)]; rfl
      have b1 := pb (j + 1) (by omega)
      refine ⟨nm.1, by omega, by omega, by omega, by omega, by constructor <;> omega, c_more p0 p2 (by omega) (by omega) (by omega) nm (by constructor <;> omega) (by rw [ev]; omega) (by rw [ev]; omega) (fun σ' o' n' => ?_)⟩
      rw [ev] at n'
      exact ih (j + 1) σ' _ (by omega) (o.trans o') n' (fu_s _ _ _) (fun a ha => by rw [fu_n _ _ ha]; exact wa a ha)
  refine bk_X12_guess (c_set p0 p2 hN (by decide) (by decide) (fun σ2 o2 n2 => loop k 0 σ2 _ (by omega) o2 n2 (by rw [fu_s]; rfl) (fun a ha => fu_n _ _ ha)))
/-- the chosen of the model, one behind the other -/
def MCH (σ : ZM) (C : Nat → Bool) (n : Nat) : Prop := σ 211 26 = (cn C n : Int) ∧ ∀ s : Nat, s < n → C s = true → σ 228 (cn C s : Int) = s
theorem MCH.step {σ : ZM} {C : Nat → Bool} {n : Nat} (h : MCH σ C n) (hc : C n = true) : MCH (z_up (z_up σ 228 (cn C n : Int) (n : Int)) 211 26 ((cn C n : Int) + 1)) C (n + 1) := by
  have e : cn C (n + 1) = cn C n + 1 := by show cn C n + _ = _; rw [if_pos hc]
  refine ⟨by rw [z_up_same, e]; rfl, fun s hs cs => ?_⟩
  rw [z_up_far _ _ _ (by decide), z_up_row]
  by_cases q : s = n
  · subst q; rw [fu_s]
  · have := cn_lt (show s < n by omega) cs
    rw [fu_n _ _ (by omega)]; exact h.2 s (by omega) cs
theorem MCH.skip {σ : ZM} {C : Nat → Bool} {n : Nat} (h : MCH σ C n) (hc : C n = false) : MCH σ C (n + 1) := by
  have e : cn C (n + 1) = cn C n := by show cn C n + _ = _; rw [hc]; rfl
  refine ⟨by rw [e]; exact h.1, fun s hs cs => ?_⟩
  by_cases q : s = n
  · subst q; rw [hc] at cs; cases cs
  · exact h.2 s (by omega) cs
theorem MCH.ord {σ : ZM} {C : Nat → Bool} {n : Nat} (h : MCH σ C n) (hn : n ≤ 8) (hC : ∀ s, C s = true → s < n) : ∃ d, Ord C (cn C n) d ∧ ∀ a, a < cn C n → σ 228 (a : Int) = (d a : Nat) := by
  obtain ⟨d, e⟩ := en_of C n
  refine ⟨d, ⟨fun i hi => ?_, fun i j hi hj hij => ?_, fun s _ cs => ?_⟩, fun a ha => ?_⟩
  · have := e.1.1 i hi
    exact ⟨by omega, (e.2 (d i) this).mpr ⟨i, hi, rfl⟩⟩
  · have a := e.at hi
    have b := e.at hj
    rw [hij] at a
    omega
  · exact (e.2 s (hC s cs)).mp cs
  · have l := e.1.1 a ha
    have := h.2 (d a) l ((e.2 (d a) l).mpr ⟨a, ha, rfl⟩)
    rw [e.at ha] at this
    exact this
def Kr (v w : Int → Int) : Prop := ∀ a : Int, ¬ (6 ≤ a ∧ a ≤ 12) → ¬ (20 ≤ a ∧ a < 110) → w a = v a
theorem Kr.rfl' {v : Int → Int} : Kr v v := fun _ _ _ => rfl
theorem Kr.trans {u v w : Int → Int} (h1 : Kr u v) (h2 : Kr v w) : Kr u w := fun a b c => (h2 a b c).trans (h1 a b c)
theorem Kr.ofQ {v w : Int → Int} (h : Kq v w) : Kr v w := fun a b c => h a (by omega) c
theorem Kr.fu {v : Int → Int} {k x : Int} (h : 6 ≤ k ∧ k ≤ 12) : Kr v (fu v k x) := fun a b c => fu_n _ _ (by omega)
theorem Kr.kp {v w : Int → Int} (h : Kr v w) : Kp v w := ⟨fun k a b => h k (by omega) (by omega), h 0 (by decide) (by decide), h 1 (by decide) (by decide)⟩
theorem m_isOff {X : ZS} {σ α : ZM} {T : Bool → ZM → Prop} {v : Int → Int} {l i : Int} (hN : NM σ v) (mg : MG σ α) (mw : MW σ α) (ok : Ok α) (l0 : 0 ≤ l) (l1 : l < α 0 1) (i0 : 0 ≤ i) (i1 : i < α 0 0)
    (h0 : ∀ σ' w', Mw σ σ' → NM σ' w' → Kr v w' → ¬ gd α l i → T false σ')
    (h1 : ∀ σ' w', Mw σ σ' → NM σ' w' → Kr v w' → gd α l i → eqf (w' 11) (w' 12) (ofT α l i) (ofB α l i) → (-pw 7 < w' 11 ∧ w' 11 < pw 7) → (-pw 7 < w' 12 ∧ w' 12 < pw 7) → T true σ') :
    ZC X (rX12_isOff zN) mX12_isOff [(2, 211), (0, l), (0, i)] zN σ (zQz T) := by
  have s8 := ok.s
  refine bk_X12_isOff ⟨by rw [mg.1]; constructor <;> omega, fun q => ?_, fun q => h0 σ v Mw.rfl' hN Kr.rfl' (fun w => by have := w.1; have := mg.1; omega)⟩
  have S2 : 2 ≤ α 0 0 := by have := mg.1; omega
  obtain ⟨n, hn⟩ : ∃ n, n = (α 0 0).toNat := ⟨_, rfl⟩
  have gi := ok.g i i0 i1
  have loop : ∀ (r s : Nat) (τ : ZM), s + r = n → Fix τ → Mw σ τ → τ 212 = σ 212 → MCH τ (allBut n i) s → Z X (rX12_isOff zN) mX12_isOff 17 [(2, 211), (0, l), (0, i), (0, (s : Int))] [] zN τ (zQz T) := by
    intro r
    induction r with
    | zero =>
      intro s τ hs f o e212 ch
      have : s = n := by omega
      subst this
      have t4 : τ 211 4 = α 0 0 := by rw [o.2.2 4 (by decide), mg.1]
      have mgt := mg.mw o
      have g1 := mgt.2 i i0 i1
      refine bk_X12_isOff_17 ⟨by constructor <;> omega, by rw [t4]; constructor <;> omega, fun _ => ⟨f, i0, by omega, ?_⟩, fun q => absurd (by rw [t4]; omega) q⟩
      rw [g1.1, g1.2.1]
      obtain ⟨τ1, hτ1⟩ : ∃ τ1 : ZM, τ1 = z_up (z_up (z_up τ 211 23 1) 226 0 (α 1 i)) 227 0 (α 2 i) := ⟨_, rfl⟩
      rw [← hτ1]
      have f1 : Fix τ1 := by rw [hτ1]; exact ((f.upF la_211 23 (by decide +kernel)).upA la_226 (by decide)).upA la_227 (by decide)
      have o1 : Mw σ τ1 := by rw [hτ1]; exact ((o.up (Or.inr ⟨rfl, by decide⟩)).up (Or.inl (by decide))).up (Or.inl (by decide))
      have n1 : NM τ1 v := hN.row f1 (by rw [hτ1, z_up_far _ _ _ (by decide), z_up_far _ _ _ (by decide), z_up_far _ _ _ (by decide), e212])
      have Q1 : MPl τ1 1 (fun _ => α 1 i) (fun _ => α 2 i) := by
        refine ⟨?_, by decide, fun j j0 j1 => ?_⟩
        · rw [hτ1, z_up_far _ _ _ (by decide), z_up_far _ _ _ (by decide), z_up_same]; rfl
        · have : j = 0 := by omega
          subst this
          refine ⟨?_, ?_, gi.1, gi.2.1⟩
          · rw [hτ1, z_up_far _ _ _ (by decide), z_up_same]
          · rw [hτ1, z_up_same]
      obtain ⟨d, od, hd⟩ := ch.ord (by omega) (fun s hs => (of_decide_eq_true hs).1)
      obtain ⟨sx, sx1, sx2⟩ := allBut_two (n := s) (x := i) (by omega)
      have kpos := cn_pos sx1 sx2
      obtain ⟨k, hk⟩ : ∃ k, k = cn (allBut s i) s := ⟨_, rfl⟩
      have k8 : k ≤ 8 := by rw [hk]; exact Nat.le_trans (cn_le _ _) (by omega)
      rw [← hk] at od hd kpos
      have hC : ∀ t, allBut s i t = true → (t : Int) < α 0 0 := fun t ht => by have := (of_decide_eq_true ht).1; omega
      have D1 : MD τ1 α k d := by
        refine ⟨?_, k8, fun a ha => ⟨?_, hC _ (od.1 a ha).2⟩, fun a b ha hb e => od.2.1 a b ha hb e⟩
        · rw [hτ1, z_up_far _ _ _ (by decide), z_up_far _ _ _ (by decide), z_up_ne _ (Or.inr (by decide)), hk]; exact ch.1
        · rw [hτ1, z_up_far _ _ _ (by decide), z_up_far _ _ _ (by decide), z_up_far _ _ _ (by decide)]; exact hd a ha
      have kfi : KFB k (fun i j => Gx α l 1 (d i) (d j)) ↔ KFI (allBut (α 0 0).toNat i) (Gx α l 1) := by rw [← hn]; exact od.kf (Gx α l 1)
      refine m_weigh n1 (mg.mw o1) (mw.mw o1) ok l0 l1 Q1 D1 kpos (fun σ7 w7 z7 n7 q7 nk => ⟨fun q => (by cases q), fun _ => h0 σ7 w7 (o1.trans z7.mw) n7 (Kr.ofQ q7) (fun w => nk (kfi.mpr w.2))⟩) (fun σ7 w7 z7 n7 q7 r7 kb d7 db vb sb => ⟨fun _ => ?_, fun q => (by cases q)⟩)
      have o7 := o1.trans z7.mw
      have D7 := D1.mz z7
      have F9 := fa9n (n := k + 1) (by omega)
      have p715 := pw7_15
      refine m_guess (F := fa 100000 (k + 1)) n7 (mg.mw o7) ok D7 r7 (by decide) (by decide) (by decide) (by omega) F9.2 vb (fun σ9 o9 n9 => ?_)
      obtain ⟨S, hS⟩ : ∃ S, S = sm (fun j => w7 (20 + 10 * (j : Nat) + ((k + 1 : Nat) : Int)) * α 3 (d j)) k := ⟨_, rfl⟩
      rw [← hS] at n9
      have Sb := wsum_r (n := k) (K := 1000) (F := fa 100000 (k + 1)) (x := fun j => w7 (20 + 10 * (j : Nat) + ((k + 1 : Nat) : Int))) (c := fun j => α 3 (d j)) k8 (by omega) (by decide) (fun j hj => by have := vb j (by omega); omega) (fun j hj => (ok.g (d j : Nat) (by omega) (D1.2.2.1 j hj).2).2.2.1) k (Nat.le_refl _)
      rw [← hS] at Sb
      refine c_turn (by decide) (by decide) n9 (by rw [fu_s]; omega) (fun σ11 o11 n11 => ?_)
      rw [fu_s] at n11
      have o11' : Mw σ σ11 := (o7.trans (Mw.ofO o9)).trans (Mw.ofO o11)
      have nui := ((mg.mw o11').2 i i0 i1).2.2.1
      rw [nui]
      have e11 : fu (fu w7 11 S) 11 (-S) 11 = -S := fu_s _ _ _
      have e8 : fu (fu w7 11 S) 11 (-S) 8 = w7 8 := by rw [fu_n _ _ (by decide), fu_n _ _ (by decide)]
      have b8 := z_pb (x := α 3 i) (y := w7 8) (A := 1000) (F := fa 100000 (k + 1)) (by omega) (by omega) db.1 db.2 (by omega)
      rw [Int.mul_comm (α 3 i)] at b8
      refine ⟨n11.1, by constructor <;> omega, c_more (by decide) (by decide) (by decide) (by decide) (by decide) n11 (by constructor <;> omega) (by rw [e11, e8]; omega) (by rw [e11, e8]; omega) (fun σ15 o15 n15 => ?_)⟩
      rw [e11, e8] at n15
      refine c_copy (by decide) (by decide) (by decide) (by decide) n15 (fun σ17 o17 n17 => ?_)
      obtain ⟨w15, hw15⟩ : ∃ w15 : Int → Int, w15 = fu (fu (fu w7 11 S) 11 (-S)) 11 (-S + w7 8 * α 3 i) := ⟨_, rfl⟩
      rw [← hw15] at n17
      have w8 : w15 8 = w7 8 := by rw [hw15, fu_n _ _ (by decide), e8]
      rw [w8] at n17
      have SI : SolI (allBut (α 0 0).toNat i) (Gx α l 1) (rho α l (fun _ => α 1 i) (fun _ => α 2 i) 1) ((1 : Nat) : Int) (sprd k d (fun j => w7 (20 + 10 * (j : Nat) + ((k + 1 : Nat) : Int)))) (w7 (20 + 10 * (k : Int) + ((k + 1 : Nat) : Int))) (w7 8) := by
        rw [← hn]
        exact od.sol (fun a ha => od.spr _ ha) sb
      have kf := kfi.mp kb
      have E := of_eqf (by omega) kf SI ⟨sx, by omega, by rw [← hn]; exact sx2⟩
      have ws := od.wsum (fun j => w7 (20 + 10 * (j : Nat) + ((k + 1 : Nat) : Int))) (fun t => α 3 t)
      rw [← hn, ws, ← hS] at E
      have v11 : fu w15 12 (w7 8) 11 = w7 8 * α 3 i - S := by rw [fu_n _ _ (by decide), hw15, fu_s]; omega
      refine h1 σ17 _ (((o11'.trans (Mw.ofO o15)).trans (Mw.ofO o17))) n17 ?_ ⟨S2, kf⟩ (by rw [v11, fu_s]; exact E) (by rw [v11]; omega) (by rw [fu_s]; omega)
      refine Kr.trans (Kr.ofQ q7) ?_
      rw [hw15]
      exact (((Kr.fu (by decide)).trans (Kr.fu (by decide))).trans (Kr.fu (by decide))).trans (Kr.fu (by decide))
    | succ r ih =>
      intro s τ hs f o e212 ch
      have t4 : τ 211 4 = α 0 0 := by rw [o.2.2 4 (by decide), mg.1]
      have kc := cn_le (allBut n i) s
      refine bk_X12_isOff_17 ⟨by constructor <;> omega, by rw [t4]; constructor <;> omega, fun q => absurd q (by rw [t4]; omega), fun _ => ⟨by constructor <;> omega, fun q => ih (s + 1) τ (by omega) f o e212 (ch.skip (decide_eq_false (fun w => w.2 q))), fun q => ⟨f, by rw [ch.1]; omega, by rw [ch.1]; omega, ?_⟩⟩⟩
      rw [ch.1]
      exact ih (s + 1) _ (by omega) ((f.upA la_228 (by decide)).upF la_211 26 (by decide +kernel)) ((o.up (Or.inl (by decide))).up (Or.inr ⟨rfl, by decide⟩)) (by rw [z_up_far _ _ _ (by decide), z_up_far _ _ _ (by decide), e212]) (ch.step (decide_eq_true ⟨by omega, q⟩))
  exact loop n 0 _ (by omega) (hN.1.upF la_211 26 (by decide +kernel)) (Mw.rfl'.up (Or.inr ⟨rfl, by decide⟩)) (z_up_far _ _ _ (by decide)) ⟨by rw [z_up_same]; rfl, fun s hs _ => by omega⟩
