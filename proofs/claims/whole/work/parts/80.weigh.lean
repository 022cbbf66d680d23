def MPl (σ : ZM) (q : Nat) (f g : Int → Int) : Prop := σ 211 23 = q ∧ q ≤ 6 ∧ ∀ j : Int, 0 ≤ j → j < q → σ 226 j = f j ∧ σ 227 j = g j ∧ (-20 ≤ f j ∧ f j ≤ 20) ∧ (-20 ≤ g j ∧ g j ≤ 20)
def MD (σ α : ZM) (k : Nat) (d : Nat → Nat) : Prop := σ 211 26 = k ∧ k ≤ 8 ∧ (∀ a, a < k → σ 228 (a : Int) = (d a : Nat) ∧ ((d a : Nat) : Int) < α 0 0) ∧ ∀ a b, a < k → b < k → d a = d b → a = b
def Mz (σ σ' : ZM) : Prop := ∀ c i : Int, c ≠ 212 → c ≠ 221 → c ≠ 222 → c ≠ 223 → c ≠ 224 → ¬ (c = 211 ∧ 17 ≤ i ∧ i ≤ 20) → σ' c i = σ c i
theorem Mz.rfl' {σ : ZM} : Mz σ σ := fun _ _ _ _ _ _ _ _ => rfl
theorem Mz.trans {σ σ1 σ2 : ZM} (h1 : Mz σ σ1) (h2 : Mz σ1 σ2) : Mz σ σ2 := fun c i a b d e f g => (h2 c i a b d e f g).trans (h1 c i a b d e f g)
theorem Mz.ofO {σ σ' : ZM} (h : Mo σ σ') : Mz σ σ' := fun c i a b d e _ _ => by rw [h c a b d e]
theorem Mz.ofK {σ σ' : ZM} (h : Mk σ σ') : Mz σ σ' := fun c i a b d e f g => h c i a b d e f (fun w => g ⟨w.1, by omega, by omega⟩)
theorem Mz.mw {σ σ' : ZM} (h : Mz σ σ') : Mw σ σ' := ⟨fun c a b d => by funext i; exact h c i b (by omega) (by omega) (by omega) (by omega) (fun w => a w.1), fun c a => by funext i; exact h c i (by omega) (by omega) (by omega) (by omega) (by omega) (by omega), fun i a => h 211 i (by decide) (by decide) (by decide) (by decide) (by decide) (by omega)⟩
theorem Mz.row {σ σ' : ZM} (h : Mz σ σ') {c : Int} (hc : 225 ≤ c) : σ' c = σ c := by funext i; exact h c i (by omega) (by omega) (by omega) (by omega) (by omega) (by omega)
theorem MPl.mz {σ σ' : ZM} {q : Nat} {f g : Int → Int} (h : MPl σ q f g) (o : Mz σ σ') : MPl σ' q f g := by
  unfold MPl at h ⊢
  rw [o 211 23 (by decide) (by decide) (by decide) (by decide) (by decide) (by decide), o.row (c := 226) (by decide), o.row (c := 227) (by decide)]; exact h
theorem MD.mz {σ σ' α : ZM} {k : Nat} {d : Nat → Nat} (h : MD σ α k d) (o : Mz σ σ') : MD σ' α k d := by
  unfold MD at h ⊢
  rw [o 211 26 (by decide) (by decide) (by decide) (by decide) (by decide) (by decide), o.row (c := 228) (by decide)]; exact h
def Kq (v w : Int → Int) : Prop := ∀ a : Int, ¬ (6 ≤ a ∧ a ≤ 10) → ¬ (20 ≤ a ∧ a < 110) → w a = v a
theorem Kq.rfl' {v : Int → Int} : Kq v v := fun _ _ _ => rfl
theorem Kq.trans {u v w : Int → Int} (h1 : Kq u v) (h2 : Kq v w) : Kq u w := fun a b c => (h2 a b c).trans (h1 a b c)
theorem Kq.fu {v : Int → Int} {k x : Int} (h : (6 ≤ k ∧ k ≤ 10) ∨ (20 ≤ k ∧ k < 110)) : Kq v (fu v k x) := fun a b c => fu_n _ _ (by omega)
theorem Kq.kp {v w : Int → Int} (h : Kq v w) : Kp v w := ⟨fun k a b => h k (by omega) (by omega), h 0 (by decide) (by decide), h 1 (by decide) (by decide)⟩
theorem m_toPlaces {X : ZS} {σ α : ZM} {T : Int → ZM → Prop} {l : Int} {s q : Nat} {f g : Int → Int} (hf : Fix σ) (mg : MG σ α) (mw : MW σ α) (ok : Ok α) (l0 : 0 ≤ l) (l1 : l < α 0 1) (hs : (s : Int) < α 0 0) (Q : MPl σ q f g) (h : T (rho α l f g q s) σ) : ZC X (rX12_toPlaces zN) mX12_toPlaces [(2, 211), (0, l), (0, (s : Int))] zN σ (zQi T) := by
  have s8 := ok.s
  have L6 := ok.l
  have q6 := Q.2.1
  have gs := mg.2 s (by omega) hs
  have os := ok.g s (by omega) hs
  have loop : ∀ (r j : Nat), j + r = q → Z X (rX12_toPlaces zN) mX12_toPlaces 5 [(2, 211), (0, l), (0, (s : Int)), (0, rho α l f g j s), (0, (j : Int))] [] zN σ (zQi T) := by
    intro r
    induction r with
    | zero =>
      intro j hj
      have : j = q := by omega
      subst this
      exact bk_X12_toPlaces_5 ⟨by constructor <;> omega, by rw [Q.1]; constructor <;> omega, fun _ => h, fun q => absurd (by rw [Q.1]; exact Int.le_refl _) q⟩
    | succ r ih =>
      intro j hj
      have qj := Q.2.2 j (by omega) (by omega)
      have w := wyp_r os.1 os.2.1 qj.2.2.1 qj.2.2.2
      refine bk_X12_toPlaces_5 ⟨by constructor <;> omega, by rw [Q.1]; constructor <;> omega, fun q => absurd q (by rw [Q.1]; omega), fun _ => ⟨hf, by omega, by omega, by omega, by omega, ?_⟩⟩
      rw [gs.1, gs.2.1, qj.1, qj.2.1]
      refine m_way os.1 os.2.1 qj.2.2.1 qj.2.2.2 ⟨by omega, by omega, ?_⟩
      rw [mw.2 l _ l0 l1 w.1 w.2]
      exact ih (j + 1) (by omega)
  exact bk_X12_toPlaces (loop q 0 (by omega))
theorem m_weigh {X : ZS} {σ α : ZM} {T : Bool → ZM → Prop} {v : Int → Int} {l : Int} {k q : Nat} {d : Nat → Nat} {f g : Int → Int} (hN : NM σ v) (mg : MG σ α) (mw : MW σ α) (ok : Ok α) (l0 : 0 ≤ l) (l1 : l < α 0 1) (Q : MPl σ q f g) (D : MD σ α k d) (k1 : 1 ≤ k)
    (h0 : ∀ σ' w', Mz σ σ' → NM σ' w' → Kq v w' → ¬ KFB k (fun i j => Gx α l 1 (d i) (d j)) → T false σ')
    (h1 : ∀ σ' w', Mz σ σ' → NM σ' w' → Kq v w' → (∀ c : Nat, c < k + 1 → σ' 224 (c : Int) = c) → KFB k (fun i j => Gx α l 1 (d i) (d j)) → w' 8 ≠ 0 → (-fa 100000 (k + 1) ≤ w' 8 ∧ w' 8 ≤ fa 100000 (k + 1)) → (∀ i : Nat, i < k + 1 → -fa 100000 (k + 1) ≤ w' (20 + 10 * i + ((k + 1 : Nat) : Int)) ∧ w' (20 + 10 * i + ((k + 1 : Nat) : Int)) ≤ fa 100000 (k + 1)) → SolB k (fun i j => Gx α l 1 (d i) (d j)) (fun i => rho α l f g q (d i)) (q : Int) (fun j => w' (20 + 10 * (j : Nat) + ((k + 1 : Nat) : Int))) (w' (20 + 10 * (k : Int) + ((k + 1 : Nat) : Int))) (w' 8) → T true σ') :
    ZC X (rX12_weigh zN) mX12_weigh [(2, 211), (0, l)] zN σ (zQz T) := by
  have s8 := ok.s
  have k8 := D.2.1
  have q6 := Q.2.1
  have hq : ∀ i : Int, 0 ≤ i → i < q → (-20 ≤ f i ∧ f i ≤ 20) ∧ (-20 ≤ g i ∧ g i ≤ 20) := fun i i0 i1 => (Q.2.2 i i0 i1).2.2
  have Gr : ∀ i j : Nat, i < k → j < k → -100 ≤ Gx α l 1 (d i) (d j) ∧ Gx α l 1 (d i) (d j) ≤ 16000 := fun i j hi hj => Gx_r ok l0 l1 (D.2.2.1 i hi).2 (D.2.2.1 j hj).2
  have Rr : ∀ i : Nat, i < k → 0 ≤ rho α l f g q (d i) ∧ rho α l f g q (d i) ≤ 96000 := fun i hi => by
    have := rho_r ok l0 l1 (D.2.2.1 i hi).2 hq q (Nat.le_refl _); omega
  obtain ⟨σ0, hσ0⟩ : ∃ σ0 : ZM, σ0 = z_up (z_up σ 211 17 (σ 211 26 + 1)) 211 18 (σ 211 26 + 2) := ⟨_, rfl⟩
  have f0 : Fix σ0 := by rw [hσ0]; exact (hN.1.upF la_211 17 (by decide +kernel)).upF la_211 18 (by decide +kernel)
  have o0 : Mz σ σ0 := fun c i _ _ _ _ _ w => by rw [hσ0, z_up_ne _ (by omega), z_up_ne _ (by omega)]
  have n0 : NM σ0 v := hN.row f0 (by rw [hσ0, z_up_far _ _ _ (by decide), z_up_far _ _ _ (by decide)])
  have e17 : σ0 211 17 = ((k + 1 : Nat) : Int) := by rw [hσ0, z_up_ne _ (Or.inr (by decide)), z_up_same, D.1]; rfl
  have e18 : σ0 211 18 = ((k + 2 : Nat) : Int) := by rw [hσ0, z_up_same, D.1]; rfl
  have Mz1 : ∀ {τ : ZM}, Mo σ0 τ → Mz σ τ := fun {τ} o => o0.trans (Mz.ofO o)
  have e26 : ∀ {τ : ZM}, Mo σ0 τ → τ 211 26 = (k : Int) := fun {τ} o => (D.mz (Mz1 o)).1
  have outer : ∀ (r i : Nat) (τ : ZM) (w : Int → Int), i + r = k → Mo σ0 τ → NM τ w → Kq v w → (∀ a : Nat, a < i → (∀ b : Nat, b < k → w (20 + 10 * a + b) = Gx α l 1 (d a) (d b)) ∧ w (20 + 10 * a + k) = 1 ∧ w (20 + 10 * a + ((k + 1 : Nat) : Int)) = rho α l f g q (d a) ∧ w (20 + 10 * k + a) = 1) → Z X (rX12_weigh zN) mX12_weigh 22 [(2, 211), (0, l), (0, (i : Int)), (9, 0)] [] zN τ (zQz T) := by
    intro r
    induction r with
    | zero =>
      intro i τ w hi o nm kq vv
      have : i = k := by omega
      subst this
      refine bk_X12_weigh_22 ⟨by constructor <;> omega, by rw [e26 o]; constructor <;> omega, fun _ => ?_, fun q => absurd (by rw [e26 o]; exact Int.le_refl _) q⟩
      rw [e26 o]
      refine bk_X12_cell (c_set (by omega) (by omega) nm (by omega) (by omega) (fun σ6 o6 n6 => ?_))
      have o6' := o.trans o6
      rw [e26 o6']
      refine bk_X12_cell ?_
      have q23 : σ6 211 23 = (q : Int) := (Q.mz (Mz1 o6')).1
      rw [q23]
      refine ⟨by constructor <;> omega, c_set (by omega) (by omega) n6 (by omega) (by omega) (fun σ11 o11 n11 => ?_)⟩
      have o11' := o6'.trans o11
      rw [e26 o11']
      obtain ⟨w11, hw11⟩ : ∃ w11 : Int → Int, w11 = fu (fu w (20 + 10 * (i : Int) + i) 0) (20 + 10 * (i : Int) + ((i : Int) + 1)) q := ⟨_, rfl⟩
      rw [← hw11] at n11
      have kq11 : Kq v w11 := by rw [hw11]; exact (kq.trans (Kq.fu (by omega))).trans (Kq.fu (by omega))
      have V : ∀ a b : Nat, a < i + 1 → b < i + 2 → w11 (20 + 10 * a + b) = bor i (fun x y => Gx α l 1 (d x) (d y)) (fun x => rho α l f g q (d x)) (q : Int) b a := fun a b ha hb => by
        unfold bor
        rw [hw11]
        by_cases ai : a = i
        · subst ai
          by_cases bi : b < a
          · rw [if_pos bi, if_neg (Nat.lt_irrefl _), fu_n _ _ (by omega), fu_n _ _ (by omega)]
            exact (vv b bi).2.2.2
          · rw [if_neg bi]
            by_cases bi2 : b = a
            · subst bi2
              rw [if_pos rfl, if_neg (Nat.lt_irrefl _), fu_n _ _ (by omega), fu_s]
            · rw [if_neg bi2, if_neg (Nat.lt_irrefl _), show 20 + 10 * (a : Int) + (b : Int) = 20 + 10 * (a : Int) + ((a : Int) + 1) by omega, fu_s]
        · have va := vv a (by omega)
          rw [fu_n _ _ (by omega), fu_n _ _ (by omega)]
          by_cases bi : b < i
          · rw [if_pos bi, if_pos (by omega)]; exact va.1 b bi
          · rw [if_neg bi]
            by_cases bi2 : b = i
            · subst bi2; rw [if_pos rfl, if_pos (by omega)]; exact va.2.1
            · have : b = i + 1 := by omega
              subst this
              rw [if_neg bi2, if_pos (by omega)]; exact va.2.2.1
      have f17 : σ11 211 17 = ((i + 1 : Nat) : Int) := by rw [o11' 211 (by decide) (by decide) (by decide) (by decide)]; exact e17
      have f18 : σ11 211 18 = ((i + 2 : Nat) : Int) := by rw [o11' 211 (by decide) (by decide) (by decide) (by decide)]; exact e18
      refine m_clear (v := w11) (n := i + 1) (wd := i + 2) (V := bor i (fun x y => Gx α l 1 (d x) (d y)) (fun x => rho α l f g q (d x)) (q : Int)) (by omega) (by omega) (by omega) f17 f18 n11 V (fun b a hb ha => ?_) (fun σ' v' rk ok' n' k' er rlt nk => ?_) (fun σ' v' fl ok' n' k' er er2 kf _ _ d0 _ db vb sol => ?_)
      · unfold bor
        by_cases bi : b < i
        · rw [if_pos bi]
          by_cases ai : a < i
          · rw [if_pos ai]; have := Gr a b ai bi; dsimp only; omega
          · rw [if_neg ai]; decide
        · rw [if_neg bi]
          by_cases bi2 : b = i
          · rw [if_pos bi2]; split <;> decide
          · rw [if_neg bi2]
            by_cases ai : a < i
            · rw [if_pos ai]; have := Rr a ai; dsimp only; omega
            · rw [if_neg ai]; omega
      · have oz : Mz σ σ' := (Mz1 o11').trans (Mz.ofK ok')
        have kq' : Kq v v' := kq11.trans (fun a b c => k' a (by omega) (by omega) (by omega) (by omega) (by omega) c)
        rw [er, (D.mz oz).1]
        refine ⟨by constructor <;> omega, by constructor <;> omega, fun _ => h0 σ' v' oz n' kq' (fun kb => nk ((kb_model k1).mpr kb)), fun q => absurd q (by omega)⟩
      · have oz : Mz σ σ' := (Mz1 o11').trans (Mz.ofK ok')
        have kq' : Kq v v' := kq11.trans (fun a b c => k' a (by omega) (by omega) (by omega) (by omega) (by omega) c)
        rw [er, (D.mz oz).1]
        refine ⟨by constructor <;> omega, by constructor <;> omega, fun q => absurd rfl q, fun _ => ?_⟩
        have sb := sol_model (k := i) (a := fun x y => Gx α l 1 (d x) (d y)) (ρ := fun x => rho α l f g q (d x)) (P := (q : Int)) (x := fun j => v' (20 + 10 * (j : Nat) + ((i + 1 : Nat) : Int))) d0 (sol (i + 1) (by omega))
        exact h1 σ' v' oz n' kq' er2 ((kb_model k1).mp kf) d0 db (fun a ha => vb a (i + 1) ha (by omega)) sb
    | succ r ih =>
      intro i τ w hi o nm kq vv
      have inner : ∀ (e j : Nat) (τ : ZM) (w : Int → Int), j + e = k → Mo σ0 τ → NM τ w → Kq v w → (∀ a : Nat, a < i → (∀ b : Nat, b < k → w (20 + 10 * a + b) = Gx α l 1 (d a) (d b)) ∧ w (20 + 10 * a + k) = 1 ∧ w (20 + 10 * a + ((k + 1 : Nat) : Int)) = rho α l f g q (d a) ∧ w (20 + 10 * k + a) = 1) → (∀ b : Nat, b < j → w (20 + 10 * i + b) = Gx α l 1 (d i) (d b)) → Z X (rX12_weigh zN) mX12_weigh 32 [(2, 211), (0, l), (0, (i : Int)), (0, (j : Int))] [] zN τ (zQz T) := by
        intro e
        induction e with
        | zero =>
          intro j τ w hj o nm kq vv vi
          have : j = k := by omega
          subst this
          refine bk_X12_weigh_32 ⟨by constructor <;> omega, by rw [e26 o]; constructor <;> omega, fun _ => ?_, fun q => absurd (by rw [e26 o]; exact Int.le_refl _) q⟩
          rw [e26 o]
          refine bk_X12_cell (c_set (by omega) (by omega) nm (by omega) (by omega) (fun σ6 o6 n6 => ?_))
          have o6' := o.trans o6
          rw [e26 o6']
          refine bk_X12_cell ?_
          have D6 := D.mz (Mz1 o6')
          have di := D6.2.2.1 i (by omega)
          rw [di.1]
          have rr := Rr i (by omega)
          refine ⟨n6.1, by omega, by omega, m_toPlaces n6.1 (mg.mw (Mz1 o6').mw) (mw.mw (Mz1 o6').mw) ok l0 l1 di.2 (Q.mz (Mz1 o6')) ⟨by constructor <;> omega, c_set (by omega) (by omega) n6 (by omega) (by omega) (fun σ16 o16 n16 => ?_)⟩⟩
          have o16' := o6'.trans o16
          rw [e26 o16']
          refine bk_X12_cell (c_set (by omega) (by omega) n16 (by omega) (by omega) (fun σ20 o20 n20 => ?_))
          have o20' := o16'.trans o20
          refine ih (i + 1) σ20 _ (by omega) o20' n20 (((kq.trans (Kq.fu (by omega))).trans (Kq.fu (by omega))).trans (Kq.fu (by omega))) (fun a ha => ?_)
          by_cases ai : a = i
          · subst ai
            refine ⟨fun b hb => ?_, ?_, ?_, ?_⟩
            · rw [fu_n _ _ (by omega), fu_n _ _ (by omega), fu_n _ _ (by omega)]; exact vi b hb
            · rw [fu_n _ _ (by omega), fu_n _ _ (by omega), fu_s]
            · rw [fu_n _ _ (by omega), show 20 + 10 * (a : Int) + ((j + 1 : Nat) : Int) = 20 + 10 * (a : Int) + ((j : Int) + 1) by omega, fu_s]
            · rw [fu_s]
          · have va := vv a (by omega)
            refine ⟨fun b hb => ?_, ?_, ?_, ?_⟩
            · rw [fu_n _ _ (by omega), fu_n _ _ (by omega), fu_n _ _ (by omega)]; exact va.1 b hb
            · rw [fu_n _ _ (by omega), fu_n _ _ (by omega), fu_n _ _ (by omega)]; exact va.2.1
            · rw [fu_n _ _ (by omega), fu_n _ _ (by omega), fu_n _ _ (by omega)]; exact va.2.2.1
            · rw [fu_n _ _ (by omega), fu_n _ _ (by omega), fu_n _ _ (by omega)]; exact va.2.2.2
        | succ e ih2 =>
          intro j τ w hj o nm kq vv vi
          have D6 := D.mz (Mz1 o)
          have di := D6.2.2.1 i (by omega)
          have dj := D6.2.2.1 j (by omega)
          have gij := Gr i j (by omega) (by omega)
          have mg6 := mg.mw (Mz1 o).mw
          refine bk_X12_weigh_32 ⟨by constructor <;> omega, by rw [e26 o]; constructor <;> omega, fun q => absurd q (by rw [e26 o]; omega), fun _ => bk_X12_cell ?_⟩
          rw [di.1, dj.1]
          have nxt : ∀ (x : Int) (σ' : ZM), x = Gx α l 1 (d i) (d j) → Mo τ σ' → NM σ' (fu w (20 + 10 * (i : Int) + j) x) → Z X (rX12_weigh zN) mX12_weigh 32 [(2, 211), (0, l), (0, (i : Int)), (0, ((j : Int) + 1))] [] zN σ' (zQz T) := fun x σ' hx o' n' => by
            refine ih2 (j + 1) σ' _ (by omega) (o.trans o') n' (kq.trans (Kq.fu (by omega))) (fun a ha => ?_) (fun b hb => ?_)
            · have va := vv a ha
              refine ⟨fun b hb => ?_, ?_, ?_, ?_⟩
              · rw [fu_n _ _ (by omega)]; exact va.1 b hb
              · rw [fu_n _ _ (by omega)]; exact va.2.1
              · rw [fu_n _ _ (by omega)]; exact va.2.2.1
              · rw [fu_n _ _ (by omega)]; exact va.2.2.2
            · by_cases q : b = j
              · subst q; rw [fu_s, hx]
              · rw [fu_n _ _ (by omega)]; exact vi b (by omega)
          refine ⟨nm.1, by omega, by omega, by omega, by omega, m_between nm.1 mg6 (mw.mw (Mz1 o).mw) ok l0 l1 (by omega) di.2 (by omega) dj.2 ⟨by constructor <;> omega, fun q => ?_, fun q => ?_⟩⟩
          · have ev : α 5 (81 * l + wy α (d i : Nat) (d j : Nat)) - 0 = Gx α l 1 (d i) (d j) := by
              unfold Gx; rw [if_neg (fun w => q (by have := D.2.2.2 i j (by omega) (by omega) w.2; omega))]
            rw [ev]
            exact ⟨by constructor <;> omega, c_set (by omega) (by omega) nm (by omega) (by omega) (fun σ' o' n' => nxt _ σ' rfl o' n')⟩
          · have ij : i = j := by omega
            subst ij
            rw [di.1, (mg6.2 (d i : Nat) (by omega) di.2).2.2.2]
            have ev : α 5 (81 * l + wy α (d i : Nat) (d i : Nat)) - α 4 (d i : Nat) = Gx α l 1 (d i) (d i) := by
              unfold Gx; rw [if_pos ⟨by decide, rfl⟩]
            rw [ev]
            exact ⟨nm.1, by omega, by omega, by constructor <;> omega, c_set (by omega) (by omega) nm (by omega) (by omega) (fun σ' o' n' => nxt _ σ' rfl o' n')⟩
      exact bk_X12_weigh_22 ⟨by constructor <;> omega, by rw [e26 o]; constructor <;> omega, fun q => absurd q (by rw [e26 o]; omega), fun _ => inner k 0 τ w (by omega) o nm kq vv (fun b hb => by omega)⟩
  refine bk_X12_weigh ?_
  rw [← hσ0]
  exact outer k 0 σ0 v (by omega) Mo.rfl' n0 Kq.rfl' (fun a ha => by omega)
