theorem Mc.mw {σ σ' : ZM} (h : Mc σ σ') : Mw σ σ' := ⟨fun c a b d => h.1 c a (by omega) (by omega), fun c a => h.1 c (by omega) (by omega) (by omega), fun i a => h.2 i (by omega)⟩
theorem MPl.mc {σ σ' : ZM} {q : Nat} {f g : Int → Int} (h : MPl σ q f g) (o : Mc σ σ') : MPl σ' q f g := by
  unfold MPl at h ⊢
  rw [o.2 23 (by decide), o.1 226 (by decide) (by decide) (by decide), o.1 227 (by decide) (by decide) (by decide)]; exact h
/-- the numbers that weighing left stay -/
def Kw (v w : Int → Int) : Prop := ∀ a : Int, (a = 0 ∨ a = 1 ∨ a = 8 ∨ 20 ≤ a ∧ a < 110) → w a = v a
theorem Kw.rfl' {v : Int → Int} : Kw v v := fun _ _ => rfl
theorem Kw.fu {u v : Int → Int} {k x : Int} (h0 : Kw u v) (h : k = 7 ∨ k = 9 ∨ 110 ≤ k) : Kw u (fu v k x) := fun a b => (fu_n _ _ (by omega)).trans (h0 a b)
theorem m_isAnswered {X : ZS} {σ α : ZM} {T : Bool → ZM → Prop} {q : Nat} {f g : Int → Int} (ms : MS σ α) (ok : Ok α) (u0 : α 0 2 ≠ -1) (S1 : 1 ≤ α 0 0) (Q : MPl σ q f g) (q1 : 1 ≤ q)
    (h0 : ¬ kG α f g q → ∀ σ', MS σ' α → Ou 211 229 σ σ' → T false σ') (h1 : kG α f g q → ∀ σ', MS σ' (s_ans α f g q) → Ou 211 229 σ σ' → T true σ') : ZC X (rX12_isAnswered zN) mX12_isAnswered [(2, 211)] zN σ (zQz T) := by
  have s8 := ok.s
  have hu := ok.u
  have L6 := ok.l
  have l0 : 0 ≤ α 0 2 := by omega
  have q6 := Q.2.1
  have hq : ∀ i : Int, 0 ≤ i → i < q → (-20 ≤ f i ∧ f i ≤ 20) ∧ (-20 ≤ g i ∧ g i ≤ 20) := fun i i0 i1 => (Q.2.2 i i0 i1).2.2
  have ms0 := ms
  obtain ⟨⟨v, nv, mv⟩, ml, mg, mw, mm⟩ := ms0
  have p7 := pw_pos 7
  have p715 := pw7_15
  refine bk_X12_isAnswered (m_choose nv.1 mg mm ok S1 Q (fun σ2 k d f2 o2 od D2 k1 => ?_))
  have n2 : NM σ2 v := nv.row f2 (o2.1 212 (by decide) (by decide) (by decide))
  have k8 := D2.2.1
  have Q2 := Q.mc o2
  rw [show σ2 211 11 = α 0 2 by rw [o2.2 11 (by decide)]; exact mm.1]
  have kfi : KFB k (fun i j => Gx α (α 0 2) 1 (d i) (d j)) ↔ kG α f g q := od.kf (Gx α (α 0 2) 1)
  refine m_weigh n2 (mg.mw o2.mw) (mw.mw o2.mw) ok l0 hu.2 Q2 D2 k1 (fun σ4 w4 z4 n4 q4 nk => ⟨fun q => (by cases q), fun _ => h0 (fun w => nk (kfi.mpr w)) σ4 (ms.mw (o2.mw.trans z4.mw) n4 (q4.kp.mv mv)) (o2.mw.trans z4.mw).ou⟩) (fun σ4 w4 z4 n4 q4 r4 kb d4 db vb sb => ⟨fun _ => ?_, fun q => (by cases q)⟩)
  have kf := kfi.mp kb
  have o4 := o2.mw.trans z4.mw
  have D4 := D2.mz z4
  have Q4 := Q2.mz z4
  have mg4 := mg.mw o4
  have mw4 := mw.mw o4
  have F9 := fa9n (n := k + 1) (by omega)
  obtain ⟨F, hF⟩ : ∃ F, F = fa 100000 (k + 1) := ⟨_, rfl⟩
  rw [← hF] at db vb F9
  obtain ⟨σ0, hσ0⟩ : ∃ σ0 : ZM, σ0 = z_up σ4 211 13 1 := ⟨_, rfl⟩
  rw [← hσ0]
  have f0 : Fix σ0 := by rw [hσ0]; exact n4.1.upF la_211 13 (by decide +kernel)
  have n0 : NM σ0 w4 := n4.row f0 (by rw [hσ0, z_up_far _ _ _ (by decide)])
  have far0 : ∀ c : Int, c ≠ 211 → σ0 c = σ4 c := fun c hc => by rw [hσ0, z_up_far _ _ _ hc]
  have fld0 : ∀ i : Int, i ≠ 13 → σ0 211 i = σ4 211 i := fun i hi => by rw [hσ0, z_up_ne _ (Or.inr hi)]
  -- what every later state has
  have pre : ∀ {τ : ZM}, Mo σ0 τ → MG τ α ∧ MW τ α ∧ MD τ α k d ∧ MPl τ q f g ∧ (∀ c : Nat, c < k + 1 → τ 224 (c : Int) = c) ∧ τ 211 11 = α 0 2 := fun {τ} o => by
    have e211 := o 211 (by decide) (by decide) (by decide) (by decide)
    refine ⟨mg4.fr (by rw [e211, fld0 4 (by decide)]) (fun c _ _ => by rw [o c (by omega) (by omega) (by omega) (by omega), far0 c (by omega)]) rfl rfl rfl rfl rfl, mw4.fr (by rw [e211, fld0 9 (by decide)]) (by rw [o 220 (by decide) (by decide) (by decide) (by decide), far0 220 (by decide)]) rfl rfl, ?_, ?_, fun c hc => by rw [o 224 (by decide) (by decide) (by decide) (by decide), far0 224 (by decide)]; exact r4 c hc, by rw [e211, fld0 11 (by decide), o4.2.2 11 (by decide)]; exact mm.1⟩
    · unfold MD at D4 ⊢
      rw [e211, fld0 26 (by decide), o 228 (by decide) (by decide) (by decide) (by decide), far0 228 (by decide)]; exact D4
    · unfold MPl at Q4 ⊢
      rw [e211, fld0 23 (by decide), o 226 (by decide) (by decide) (by decide) (by decide), far0 226 (by decide), o 227 (by decide) (by decide) (by decide) (by decide), far0 227 (by decide)]; exact Q4
  have q23 : ∀ {τ : ZM}, Mo σ0 τ → τ 211 23 = (q : Int) := fun {τ} o => (pre o).2.2.2.1.1
  have q26 : ∀ {τ : ZM}, Mo σ0 τ → τ 211 26 = (k : Int) := fun {τ} o => (pre o).2.2.1.1
  have d8 : ∀ j, j < k → d j < 8 := fun j hj => (od.1 j hj).1
  have SI : SolI (nC α f g q) (Gx α (α 0 2) 1) (rho α (α 0 2) f g q) (q : Int) (sprd k d (fun j => w4 (20 + 10 * (j : Nat) + ((k + 1 : Nat) : Int)))) (w4 (20 + 10 * (k : Int) + ((k + 1 : Nat) : Int))) (w4 8) := od.sol (fun a ha => od.spr _ ha) sb
  obtain ⟨x, hx⟩ : ∃ x : Nat → Int, x = fun j : Nat => w4 (20 + 10 * (j : Nat) + ((k + 1 : Nat) : Int)) := ⟨_, rfl⟩
  obtain ⟨m, hm⟩ : ∃ m, m = w4 (20 + 10 * (k : Int) + ((k + 1 : Nat) : Int)) := ⟨_, rfl⟩
  obtain ⟨D, hD⟩ : ∃ D, D = w4 8 := ⟨_, rfl⟩
  rw [← hx, ← hm, ← hD] at SI
  rw [← hD] at db
  have xb : ∀ j : Nat, j < k → -F ≤ x j ∧ x j ≤ F := fun j hj => by rw [hx]; exact vb j (by omega)
  have mb : -F ≤ m ∧ m ≤ F := by rw [hm]; exact vb k (by omega)
  have cell : ∀ {u : Int → Int}, Kw w4 u → ∀ j : Nat, j < k → u (20 + 10 * (j : Int) + ((k + 1 : Nat) : Int)) = x j := fun {u} hk j hj => by rw [hk _ (by omega), hx]
  have cellk : ∀ {u : Int → Int}, Kw w4 u → u (20 + 10 * (k : Int) + ((k + 1 : Nat) : Int)) = m := fun {u} hk => by rw [hk _ (by omega), hm]
  have c8 : ∀ {u : Int → Int}, Kw w4 u → u 8 = D := fun {u} hk => by rw [hk _ (by omega), hD]
  have bn : ∀ j, j < k → -1000 ≤ α 3 (d j) ∧ α 3 (d j) ≤ 1000 := fun j hj => (ok.g (d j : Nat) (by omega) (D2.2.2.1 j hj).2).2.2.1
  have br : ∀ j, j < k → 0 ≤ rho α (α 0 2) f g q (d j) ∧ rho α (α 0 2) f g q (d j) ≤ 96000 := fun j hj => by
    have := rho_r ok l0 hu.2 (D2.2.2.1 j hj).2 hq q (Nat.le_refl _); omega
  have sN := wsum_r (n := k) (K := 1000) (F := F) (x := x) (c := fun j => α 3 (d j)) k8 (by omega) (by decide) (fun j hj => by have := xb j hj; omega) bn
  have sR := wsum_r (n := k) (K := 96000) (F := F) (x := x) (c := fun j => rho α (α 0 2) f g q (d j)) k8 (by omega) (by decide) (fun j hj => by have := xb j hj; omega) (fun j hj => by have := br j hj; omega)
  have bU := uw_r ok l0 hu.2 q6 hq
  have bDq := z_pb (x := (q : Int)) (y := D) (A := 6) (F := F) (by omega) (by omega) db.1 db.2 (by omega)
  rw [Int.mul_comm (q : Int)] at bDq
  have bmq := z_pb (x := (q : Int)) (y := m) (A := 6) (F := F) (by omega) (by omega) mb.1 mb.2 (by omega)
  rw [Int.mul_comm (q : Int)] at bmq
  have bDU := z_pb (x := uw α (α 0 2) f g q) (y := D) (A := 600000) (F := F) (by omega) (by omega) db.1 db.2 (by omega)
  rw [Int.mul_comm (uw α (α 0 2) f g q)] at bDU
  have qq36 : 0 ≤ (q : Int) * q ∧ (q : Int) * q ≤ 36 := by
    have := z_pb (x := (q : Int)) (y := (q : Int)) (A := 6) (F := 6) (by omega) (by omega) (by omega) (by omega) (by decide)
    exact ⟨Int.mul_nonneg (by omega) (by omega), by omega⟩
  have bDqq := z_pb (x := (q : Int) * q) (y := D) (A := 36) (F := F) (by omega) (by omega) db.1 db.2 (by omega)
  rw [Int.mul_comm ((q : Int) * q)] at bDqq
  -- last: pairs, and the spread
  have last : ∀ (τ : ZM) (u : Int → Int), Mo σ0 τ → NM τ u → Kw w4 u → u 110 = sm (fun j => x j * α 3 (d j)) k → u 121 = D * q → u 112 = m → u 123 = D * q → (∀ j : Nat, j < k → u (113 + (d j : Nat)) = x j ∧ u (124 + (d j : Nat)) = D * q) → (∀ s : Nat, s < 8 → nC α f g q s = false → u (113 + (s : Int)) = 0 ∧ u (124 + (s : Int)) = 1) → u 9 = sm (fun j => x j * rho α (α 0 2) f g q (d j)) k + m * q → Z X (rX12_isAnswered zN) mX12_isAnswered 255 [(2, 211), (1, 0), (9, 0), (0, 0), (9, 0)] [] zN τ (zQz T) := by
    intro τ u o nm kw u110 u121 u112 u123 ud uc u9
    obtain ⟨mgt, mwt, Dt, Qt, rt, e11⟩ := pre o
    have outer : ∀ (r p : Nat), p + r = q → Z X (rX12_isAnswered zN) mX12_isAnswered 255 [(2, 211), (1, sm (fun p => sm (fun r => α 5 (81 * α 0 2 + wyp (f p) (g p) (f r) (g r))) q) p), (9, 0), (0, (p : Int)), (9, 0)] [] zN τ (zQz T) := by
      intro r
      induction r with
      | zero =>
        intro p hp
        have : p = q := by omega
        subst this
        refine bk_X12_isAnswered_255 ⟨by constructor <;> omega, by rw [q23 o]; constructor <;> omega, fun _ => ?_, fun q => absurd (by rw [q23 o]; exact Int.le_refl _) q⟩
        have ev : u 9 + u 8 * -uw α (α 0 2) f g p = sm (fun j => x j * rho α (α 0 2) f g p (d j)) k + m * p - D * uw α (α 0 2) f g p := by
          rw [u9, c8 kw, Int.mul_neg]; omega
        have s1 := sR k (Nat.le_refl _)
        refine c_more (a := 9) (b := 8) (t := -uw α (α 0 2) f g p) (by decide) (by decide) (by decide) (by decide) (by decide) nm (by constructor <;> omega) (by rw [ev]; omega) (by rw [ev]; omega) (fun σa oa na => ?_)
        rw [ev] at na
        refine bk_X12_top (c_copy (by decide) (by decide) (by decide) (by decide) na (fun σb ob nb => c_set (by decide) (by decide) nb (by decide) (by decide) (fun σc oc nc => ?_)))
        rw [fu_s] at nc
        have oC := ((o.trans oa).trans ob).trans oc
        rw [q23 oC]
        obtain ⟨uc', huc⟩ : ∃ uc' : Int → Int, uc' = fu (fu (fu u 9 (sm (fun j => x j * rho α (α 0 2) f g p (d j)) k + m * p - D * uw α (α 0 2) f g p)) (110 + 1) (sm (fun j => x j * rho α (α 0 2) f g p (d j)) k + m * p - D * uw α (α 0 2) f g p)) 9 0 := ⟨_, rfl⟩
        rw [← huc] at nc
        have kwc : Kw w4 uc' := by rw [huc]; exact ((kw.fu (Or.inr (Or.inl rfl))).fu (Or.inr (Or.inr (by decide)))).fu (Or.inr (Or.inl rfl))
        have z9 : uc' 9 = 0 := by rw [huc, fu_s]
        have ev2 : uc' 9 + uc' 8 * ((p : Int) * p) = D * p * p := by rw [z9, c8 kwc, Int.zero_add, Int.mul_assoc]
        have bd2 : -(36 * F) ≤ D * p * p ∧ D * p * p ≤ 36 * F := by rw [Int.mul_assoc]; exact bDqq
        refine ⟨by constructor <;> omega, c_more (a := 9) (b := 8) (t := (p : Int) * p) (by decide) (by decide) (by decide) (by decide) (by decide) nc (by constructor <;> omega) (by rw [ev2]; omega) (by rw [ev2]; omega) (fun σe oe ne => bk_X12_bottom (c_copy (by decide) (by decide) (by decide) (by decide) ne (fun σf of' nf => ?_)))⟩
        rw [ev2] at nf
        rw [fu_s] at nf
        obtain ⟨uf, huf⟩ : ∃ uf : Int → Int, uf = fu (fu uc' 9 (D * p * p)) (121 + 1) (D * p * p) := ⟨_, rfl⟩
        rw [← huf] at nf
        have oF := (oC.trans oe).trans of'
        have kwf : Kw w4 uf := by rw [huf]; exact (kwc.fu (Or.inr (Or.inl rfl))).fu (Or.inr (Or.inr (by decide)))
        have y : ∀ a : Int, 110 ≤ a → a ≠ 111 → a ≠ 122 → uf a = u a := fun a h1 h2 h3 => by
          rw [huf, fu_n _ _ (by omega), fu_n _ _ (by omega), huc, fu_n _ _ (by omega), fu_n _ _ (by omega), fu_n _ _ (by omega)]
        have y111 : uf 111 = sm (fun j => x j * rho α (α 0 2) f g p (d j)) k + m * p - D * uw α (α 0 2) f g p := by
          rw [huf, fu_n _ _ (by decide), fu_n _ _ (by decide), huc, fu_n _ _ (by decide)]; exact fu_s _ _ _
        have y122 : uf 122 = D * p * p := by rw [huf]; exact fu_s _ _ _
        have e211 := oF 211 (by decide) (by decide) (by decide) (by decide)
        have E := an_eqf q1 kf (by
          have := od.1 0 (by omega)
          exact ⟨d 0, this.1, this.2⟩) SI
        have wsN := od.wsum x (fun t => α 3 t)
        have wsR := od.wsum x (fun t => rho α (α 0 2) f g p t)
        rw [wsN, wsR] at E
        refine h1 kf σf ⟨⟨uf, nf, ?_, ?_, ?_⟩, ?_, ?_, ?_, ?_⟩ ?_
        · intro _ kk kk0 kk1
          show -pw 15 < uf (110 + kk) ∧ -pw 15 < uf (121 + kk) ∧ eqf (uf (110 + kk)) (uf (121 + kk)) (anT α f g p kk) (anB α f g p kk)
          have s2 := sN k (Nat.le_refl _)
          by_cases e0 : kk = 0
          · subst e0
            have a1 : uf (110 + 0) = sm (fun j => x j * α 3 (d j)) k := (y 110 (by decide) (by decide) (by decide)).trans u110
            have a2 : uf (121 + 0) = D * p := (y 121 (by decide) (by decide) (by decide)).trans u121
            rw [a1, a2]
            exact ⟨by omega, by omega, E.1⟩
          · by_cases e1 : kk = 1
            · subst e1
              show -pw 15 < uf 111 ∧ -pw 15 < uf 122 ∧ eqf (uf 111) (uf 122) _ _
              rw [y111, y122]
              exact ⟨by omega, by omega, E.2.1⟩
            · by_cases e2 : kk = 2
              · subst e2
                have a1 : uf (110 + 2) = m := (y 112 (by decide) (by decide) (by decide)).trans u112
                have a2 : uf (121 + 2) = D * p := (y 123 (by decide) (by decide) (by decide)).trans u123
                rw [a1, a2]
                exact ⟨by omega, by omega, E.2.2.1⟩
              · obtain ⟨s, hs⟩ : ∃ s : Nat, kk = 3 + s := ⟨(kk - 3).toNat, by omega⟩
                have s7 : s < 8 := by omega
                rw [show 110 + kk = 113 + (s : Int) by omega, show 121 + kk = 124 + (s : Int) by omega, y _ (by omega) (by omega) (by omega), y _ (by omega) (by omega) (by omega), hs]
                have Es := E.2.2.2 s s7
                by_cases cc : nC α f g p s = true
                · obtain ⟨j, hj, dj⟩ := od.2.2 s s7 cc
                  have w := ud j hj
                  rw [dj] at w
                  rw [w.1, w.2]
                  have sp := od.spr x hj
                  rw [dj] at sp
                  have xj := xb j hj
                  refine ⟨by omega, by omega, ?_⟩
                  rw [← sp]
                  exact Es.1 cc
                · have cf : nC α f g p s = false := by cases hh : nC α f g p s; rfl; exact absurd hh cc
                  have w := uc s s7 cf
                  rw [w.1, w.2]
                  exact ⟨by omega, by omega, Es.2 cf 1 (by decide)⟩
        · show uf 0 = α 11 0
          rw [kwf 0 (by omega), q4.kp.2.1]; exact mv.2.1
        · show uf 1 = α 11 1
          rw [kwf 1 (by omega), q4.kp.2.2]; exact mv.2.2
        · exact ml.fr (by rw [oF 213 (by decide) (by decide) (by decide) (by decide), far0 213 (by decide), o4.1 213 (by decide) (by decide) (by decide)]) (by rw [oF 214 (by decide) (by decide) (by decide) (by decide), far0 214 (by decide), o4.1 214 (by decide) (by decide) (by decide)]) (by rw [oF 215 (by decide) (by decide) (by decide) (by decide), far0 215 (by decide), o4.1 215 (by decide) (by decide) (by decide)]) rfl rfl rfl
        · exact (pre oF).1.fr rfl (fun _ _ _ => rfl) rfl rfl rfl rfl rfl
        · exact (pre oF).2.1.fr rfl rfl rfl rfl
        · refine ⟨(pre oF).2.2.2.2.2, ?_, ?_⟩
          · rw [e211, fld0 12 (by decide), o4.2.2 12 (by decide)]; exact mm.2.1
          · rw [e211, hσ0, z_up_same]; rfl
        · intro c hc
          rw [oF c (by omega) (by omega) (by omega) (by omega), far0 c (by omega)]
          exact o4.ou c hc
      | succ r ih =>
        intro p hp
        have inner : ∀ (e j : Nat), j + e = q → Z X (rX12_isAnswered zN) mX12_isAnswered 266 [(2, 211), (1, sm (fun p => sm (fun r => α 5 (81 * α 0 2 + wyp (f p) (g p) (f r) (g r))) q) p + sm (fun r => α 5 (81 * α 0 2 + wyp (f p) (g p) (f r) (g r))) j), (9, 0), (0, (p : Int)), (0, (j : Int))] [] zN τ (zQz T) := by
          intro e
          induction e with
          | zero =>
            intro j hj
            have : j = q := by omega
            subst this
            exact bk_X12_isAnswered_266 ⟨by constructor <;> omega, by rw [q23 o]; constructor <;> omega, fun _ => ih (p + 1) (by omega), fun q => absurd (by rw [q23 o]; exact Int.le_refl _) q⟩
          | succ e ih2 =>
            intro j hj
            have w := uw_in ok l0 hu.2 hq p j (by omega) (by omega)
            have qp := Qt.2.2 p (by omega) (by omega)
            have qj := Qt.2.2 j (by omega) (by omega)
            refine bk_X12_isAnswered_266 ⟨by constructor <;> omega, by rw [q23 o]; constructor <;> omega, fun q => absurd q (by rw [q23 o]; omega), fun _ => ⟨nm.1, by omega, by omega, by omega, by omega, ?_⟩⟩
            rw [qp.1, qp.2.1, qj.1, qj.2.1, e11]
            refine m_way qp.2.2.1 qp.2.2.2 qj.2.2.1 qj.2.2.2 ?_
            rw [mwt.2 (α 0 2) _ l0 hu.2 w.1.1 w.1.2]
            refine ⟨by omega, by omega, by constructor <;> omega, ?_⟩
            have nx := ih2 (j + 1) (by omega)
            rw [show sm (fun r => α 5 (81 * α 0 2 + wyp (f p) (g p) (f r) (g r))) (j + 1) = sm (fun r => α 5 (81 * α 0 2 + wyp (f p) (g p) (f r) (g r))) j + α 5 (81 * α 0 2 + wyp (f p) (g p) (f j) (g j)) from rfl, ← Int.add_assoc] at nx
            exact nx
        have := inner q 0 (by omega)
        rw [show sm (fun r => α 5 (81 * α 0 2 + wyp (f p) (g p) (f r) (g r))) 0 = 0 from rfl, Int.add_zero] at this
        exact bk_X12_isAnswered_255 ⟨by constructor <;> omega, by rw [q23 o]; constructor <;> omega, fun q => absurd q (by rw [q23 o]; omega), fun _ => this⟩
    exact outer q 0 (by omega)
  -- the sum over the ways
  have sum9 : ∀ (r j : Nat) (τ : ZM) (u : Int → Int), j + r = k → Mo σ0 τ → NM τ u → Kw w4 u → u 110 = sm (fun j => x j * α 3 (d j)) k → u 121 = D * q → u 112 = m → u 123 = D * q → (∀ j : Nat, j < k → u (113 + (d j : Nat)) = x j ∧ u (124 + (d j : Nat)) = D * q) → (∀ s : Nat, s < 8 → nC α f g q s = false → u (113 + (s : Int)) = 0 ∧ u (124 + (s : Int)) = 1) → u 9 = sm (fun j => x j * rho α (α 0 2) f g q (d j)) j → Z X (rX12_isAnswered zN) mX12_isAnswered 192 [(2, 211), (0, (j : Int)), (9, 0), (9, 0), (9, 0)] [] zN τ (zQz T) := by
    intro r
    induction r with
    | zero =>
      intro j τ u hj o nm kw u110 u121 u112 u123 ud uc u9
      have : j = k := by omega
      subst this
      obtain ⟨mgt, mwt, Dt, Qt, rt, e11⟩ := pre o
      refine bk_X12_isAnswered_192 ⟨by constructor <;> omega, by rw [q26 o]; constructor <;> omega, fun _ => ?_, fun q => absurd (by rw [q26 o]; exact Int.le_refl _) q⟩
      rw [q26 o]
      refine m_told1 nm.1 (by omega) (rt j (by omega)) (q26 o) ?_
      rw [q23 o]
      have ev : u 9 + u (20 + 10 * (j : Int) + ((j + 1 : Nat) : Int)) * q = sm (fun i => x i * rho α (α 0 2) f g q (d i)) j + m * q := by rw [u9, cellk kw]
      have s1 := sR j (Nat.le_refl _)
      refine ⟨by constructor <;> omega, c_more (a := 9) (b := 20 + 10 * (j : Int) + ((j + 1 : Nat) : Int)) (t := (q : Int)) (by decide) (by decide) (by omega) (by omega) (by omega) nm (by constructor <;> omega) (by rw [ev]; omega) (by rw [ev]; omega) (fun σa oa na => ?_)⟩
      rw [ev] at na
      have y : ∀ a : Int, a ≠ 9 → fu u 9 (sm (fun i => x i * rho α (α 0 2) f g q (d i)) j + m * q) a = u a := fun a ha => fu_n _ _ ha
      exact last σa _ (o.trans oa) na (kw.fu (Or.inr (Or.inl rfl))) (by rw [y 110 (by decide)]; exact u110) (by rw [y 121 (by decide)]; exact u121) (by rw [y 112 (by decide)]; exact u112) (by rw [y 123 (by decide)]; exact u123) (fun i hi => by rw [y _ (by omega), y _ (by omega)]; exact ud i hi) (fun s hs cs => by rw [y _ (by omega), y _ (by omega)]; exact uc s hs cs) (fu_s _ _ _)
    | succ r ih =>
      intro j τ u hj o nm kw u110 u121 u112 u123 ud uc u9
      obtain ⟨mgt, mwt, Dt, Qt, rt, e11⟩ := pre o
      have dj := Dt.2.2.1 j (by omega)
      have rj := br j (by omega)
      refine bk_X12_isAnswered_192 ⟨by constructor <;> omega, by rw [q26 o]; constructor <;> omega, fun q => absurd q (by rw [q26 o]; omega), fun _ => m_told1 nm.1 (by omega) (rt j (by omega)) (q26 o) ⟨nm.1, by omega, by omega, ?_⟩⟩
      rw [dj.1, e11]
      refine m_toPlaces nm.1 mgt mwt ok l0 hu.2 dj.2 Qt ⟨by constructor <;> omega, ?_⟩
      have ev : u 9 + u (20 + 10 * (j : Int) + ((k + 1 : Nat) : Int)) * rho α (α 0 2) f g q (d j) = sm (fun i => x i * rho α (α 0 2) f g q (d i)) (j + 1) := by rw [u9, cell kw j (by omega)]; rfl
      have s1 := sR (j + 1) (by omega)
      refine c_more (a := 9) (b := 20 + 10 * (j : Int) + ((k + 1 : Nat) : Int)) (t := rho α (α 0 2) f g q (d j)) (by decide) (by decide) (by omega) (by omega) (by omega) nm (by constructor <;> omega) (by rw [ev]; omega) (by rw [ev]; omega) (fun σa oa na => ?_)
      rw [ev] at na
      have y : ∀ a : Int, a ≠ 9 → fu u 9 (sm (fun i => x i * rho α (α 0 2) f g q (d i)) (j + 1)) a = u a := fun a ha => fu_n _ _ ha
      exact ih (j + 1) σa _ (by omega) (o.trans oa) na (kw.fu (Or.inr (Or.inl rfl))) (by rw [y 110 (by decide)]; exact u110) (by rw [y 121 (by decide)]; exact u121) (by rw [y 112 (by decide)]; exact u112) (by rw [y 123 (by decide)]; exact u123) (fun i hi => by rw [y _ (by omega), y _ (by omega)]; exact ud i hi) (fun s hs cs => by rw [y _ (by omega), y _ (by omega)]; exact uc s hs cs) (fu_s _ _ _)
  -- the weights
  have wl : ∀ (r j : Nat) (τ : ZM) (u : Int → Int), j + r = k → Mo σ0 τ → NM τ u → Kw w4 u → u 7 = D * q → u 110 = sm (fun j => x j * α 3 (d j)) k → u 121 = D * q → u 112 = m → u 123 = D * q → (∀ i : Nat, i < j → u (113 + (d i : Nat)) = x i ∧ u (124 + (d i : Nat)) = D * q) → (∀ s : Nat, s < 8 → nC α f g q s = false → u (113 + (s : Int)) = 0 ∧ u (124 + (s : Int)) = 1) → Z X (rX12_isAnswered zN) mX12_isAnswered 130 [(2, 211), (0, (j : Int)), (9, 0), (9, 0), (9, 0)] [] zN τ (zQz T) := by
    intro r
    induction r with
    | zero =>
      intro j τ u hj o nm kw u7 u110 u121 u112 u123 ud uc
      have : j = k := by omega
      subst this
      refine bk_X12_isAnswered_130 ⟨by constructor <;> omega, by rw [q26 o]; constructor <;> omega, fun _ => c_set (by decide) (by decide) nm (by decide) (by decide) (fun σa oa na => ?_), fun q => absurd (by rw [q26 o]; exact Int.le_refl _) q⟩
      have y : ∀ a : Int, a ≠ 9 → fu u 9 0 a = u a := fun a ha => fu_n _ _ ha
      exact sum9 j 0 σa _ (by omega) (o.trans oa) na (kw.fu (Or.inr (Or.inl rfl))) (by rw [y 110 (by decide)]; exact u110) (by rw [y 121 (by decide)]; exact u121) (by rw [y 112 (by decide)]; exact u112) (by rw [y 123 (by decide)]; exact u123) (fun i hi => by rw [y _ (by omega), y _ (by omega)]; exact ud i hi) (fun s hs cs => by rw [y _ (by omega), y _ (by omega)]; exact uc s hs cs) (fu_s _ _ _)
    | succ r ih =>
      intro j τ u hj o nm kw u7 u110 u121 u112 u123 ud uc
      obtain ⟨mgt, mwt, Dt, Qt, rt, e11⟩ := pre o
      have dj := Dt.2.2.1 j (by omega)
      have dj8 := d8 j (by omega)
      refine bk_X12_isAnswered_130 ⟨by constructor <;> omega, by rw [q26 o]; constructor <;> omega, fun q => absurd q (by rw [q26 o]; omega), fun _ => ⟨nm.1, by omega, by omega, ?_⟩⟩
      rw [dj.1]
      refine bk_X12_top (m_told1 nm.1 (by omega) (rt j (by omega)) (q26 o) (c_copy (by omega) (by omega) (by omega) (by omega) nm (fun σa oa na => ⟨na.1, ?_⟩)))
      have oa' := o.trans oa
      rw [((pre oa').2.2.1.2.2.1 j (by omega)).1]
      rw [cell kw j (by omega)] at na
      refine bk_X12_bottom (c_copy (by omega) (by omega) (by decide) (by decide) na (fun σb ob nb => ?_))
      rw [fu_n _ _ (show (7 : Int) ≠ 110 + (3 + ((d j : Nat) : Int)) by omega), u7] at nb
      obtain ⟨ub, hub⟩ : ∃ ub : Int → Int, ub = fu (fu u (110 + (3 + ((d j : Nat) : Int))) (x j)) (121 + (3 + ((d j : Nat) : Int))) (D * q) := ⟨_, rfl⟩
      rw [← hub] at nb
      have y : ∀ a : Int, a ≠ 113 + ((d j : Nat) : Int) → a ≠ 124 + ((d j : Nat) : Int) → ub a = u a := fun a h1 h2 => by rw [hub, fu_n _ _ (by omega), fu_n _ _ (by omega)]
      have yb : ub (124 + ((d j : Nat) : Int)) = D * q := by rw [hub, show 124 + ((d j : Nat) : Int) = 121 + (3 + ((d j : Nat) : Int)) by omega, fu_s]
      have yt : ub (113 + ((d j : Nat) : Int)) = x j := by rw [hub, fu_n _ _ (by omega), show 113 + ((d j : Nat) : Int) = 110 + (3 + ((d j : Nat) : Int)) by omega, fu_s]
      refine ih (j + 1) σb ub (by omega) (oa'.trans ob) nb (by rw [hub]; exact (kw.fu (Or.inr (Or.inr (by omega)))).fu (Or.inr (Or.inr (by omega)))) (by rw [y 7 (by omega) (by omega)]; exact u7) (by rw [y 110 (by omega) (by omega)]; exact u110) (by rw [y 121 (by omega) (by omega)]; exact u121) (by rw [y 112 (by omega) (by omega)]; exact u112) (by rw [y 123 (by omega) (by omega)]; exact u123) (fun i hi => ?_) (fun s hs cs => ?_)
      · by_cases e : i = j
        · subst e; exact ⟨yt, yb⟩
        · have di8 := d8 i (by omega)
          have ne : d i ≠ d j := fun w => e (od.2.1 i j (by omega) (by omega) w)
          rw [y _ (by omega) (by omega), y _ (by omega) (by omega)]; exact ud i (by omega)
      · have ne : s ≠ d j := fun w => by rw [w, (od.1 j (by omega)).2] at cs; cases cs
        rw [y _ (by omega) (by omega), y _ (by omega) (by omega)]; exact uc s hs cs
  -- zeros first
  have zl : ∀ (r i : Nat) (τ : ZM) (u : Int → Int), i + r = 8 → Mo σ0 τ → NM τ u → Kw w4 u → u 7 = D * q → u 110 = sm (fun j => x j * α 3 (d j)) k → u 121 = D * q → u 112 = m → u 123 = D * q → (∀ s : Nat, s < i → u (113 + (s : Int)) = 0 ∧ u (124 + (s : Int)) = 1) → Z X (rX12_isAnswered zN) mX12_isAnswered 92 [(2, 211), (0, (i : Int)), (9, 0), (9, 0), (9, 0)] [] zN τ (zQz T) := by
    intro r
    induction r with
    | zero =>
      intro i τ u hi o nm kw u7 u110 u121 u112 u123 uc
      have : i = 8 := by omega
      subst this
      exact bk_X12_isAnswered_92 ⟨by decide, fun _ => wl k 0 τ u (by omega) o nm kw u7 u110 u121 u112 u123 (fun i hi => by omega) (fun s hs _ => uc s hs), fun q => absurd (by decide) q⟩
    | succ r ih =>
      intro i τ u hi o nm kw u7 u110 u121 u112 u123 uc
      refine bk_X12_isAnswered_92 ⟨by constructor <;> omega, fun q => absurd q (by omega), fun _ => bk_X12_top (c_set (by omega) (by omega) nm (by decide) (by decide) (fun σa oa na => bk_X12_bottom (c_set (by omega) (by omega) na (by decide) (by decide) (fun σb ob nb => ?_))))⟩
      obtain ⟨ub, hub⟩ : ∃ ub : Int → Int, ub = fu (fu u (110 + (3 + (i : Int))) 0) (121 + (3 + (i : Int))) 1 := ⟨_, rfl⟩
      rw [← hub] at nb
      have y : ∀ a : Int, a ≠ 113 + (i : Int) → a ≠ 124 + (i : Int) → ub a = u a := fun a h1 h2 => by rw [hub, fu_n _ _ (by omega), fu_n _ _ (by omega)]
      have yb : ub (124 + (i : Int)) = 1 := by rw [hub, show 124 + (i : Int) = 121 + (3 + (i : Int)) by omega, fu_s]
      have yt : ub (113 + (i : Int)) = 0 := by rw [hub, fu_n _ _ (by omega), show 113 + (i : Int) = 110 + (3 + (i : Int)) by omega, fu_s]
      refine ih (i + 1) σb ub (by omega) ((o.trans oa).trans ob) nb (by rw [hub]; exact (kw.fu (Or.inr (Or.inr (by omega)))).fu (Or.inr (Or.inr (by omega)))) (by rw [y 7 (by omega) (by omega)]; exact u7) (by rw [y 110 (by omega) (by omega)]; exact u110) (by rw [y 121 (by omega) (by omega)]; exact u121) (by rw [y 112 (by omega) (by omega)]; exact u112) (by rw [y 123 (by omega) (by omega)]; exact u123) (fun s hs => ?_)
      by_cases e : s = i
      · subst e; exact ⟨yt, yb⟩
      · rw [y _ (by omega) (by omega), y _ (by omega) (by omega)]; exact uc s (by omega)
  -- the beginning
  refine c_set (by decide) (by decide) n0 (by decide) (by decide) (fun σ6 o6 n6 => ?_)
  rw [q23 o6]
  have kw6 : Kw w4 (fu w4 7 0) := Kw.rfl'.fu (Or.inl rfl)
  have ev : fu w4 7 0 7 + fu w4 7 0 8 * q = D * q := by rw [fu_s, c8 kw6, Int.zero_add]
  refine ⟨by constructor <;> omega, c_more (a := 7) (b := 8) (t := (q : Int)) (by decide) (by decide) (by decide) (by decide) (by decide) n6 (by constructor <;> omega) (by rw [ev]; omega) (by rw [ev]; omega) (fun σ9 o9 n9 => bk_X12_top ?_)⟩
  rw [ev] at n9
  have o9' := o6.trans o9
  obtain ⟨w9, hw9⟩ : ∃ w9 : Int → Int, w9 = fu (fu w4 7 0) 7 (D * q) := ⟨_, rfl⟩
  rw [← hw9] at n9
  have kw9 : Kw w4 w9 := by rw [hw9]; exact kw6.fu (Or.inl rfl)
  have w97 : w9 7 = D * q := by rw [hw9, fu_s]
  obtain ⟨mg9, mw9, D9, Q9, r9, e9⟩ := pre o9'
  refine m_guess (p := 110 + 0) (F := F) n9 mg9 ok D9 r9 (by decide) (by decide) (by decide) (by omega) F9.2 (fun i hi => by rw [kw9 _ (by omega)]; exact vb i hi) (fun σ13 o13 n13 => bk_X12_bottom ?_)
  have o13' := o9'.trans o13
  have eS : sm (fun j => w9 (20 + 10 * (j : Nat) + ((k + 1 : Nat) : Int)) * α 3 (d j)) k = sm (fun j => x j * α 3 (d j)) k := sm_congr (fun j hj => by rw [cell kw9 j hj])
  rw [eS] at n13
  refine c_copy (by decide) (by decide) (by decide) (by decide) n13 (fun σ17 o17 n17 => bk_X12_top ?_)
  rw [fu_n _ _ (show (7 : Int) ≠ 110 + 0 by decide), w97] at n17
  have o17' := o13'.trans o17
  rw [q26 o17']
  refine m_told1 n17.1 (by omega) ((pre o17').2.2.2.2.1 k (by omega)) (q26 o17') ?_
  obtain ⟨w17, hw17⟩ : ∃ w17 : Int → Int, w17 = fu (fu w9 (110 + 0) (sm (fun j => x j * α 3 (d j)) k)) (121 + 0) (D * q) := ⟨_, rfl⟩
  rw [← hw17] at n17
  have kw17 : Kw w4 w17 := by rw [hw17]; exact (kw9.fu (Or.inr (Or.inr (by decide)))).fu (Or.inr (Or.inr (by decide)))
  refine c_copy (by decide) (by decide) (by omega) (by omega) n17 (fun σ23 o23 n23 => bk_X12_bottom (c_copy (by decide) (by decide) (by decide) (by decide) n23 (fun σ27 o27 n27 => ?_)))
  rw [cellk kw17, fu_n _ _ (show (7 : Int) ≠ 110 + 2 by decide)] at n27
  have w177 : w17 7 = D * q := by rw [hw17, fu_n _ _ (by decide), fu_n _ _ (by decide), w97]
  rw [w177] at n27
  have o27' := (o17'.trans o23).trans o27
  refine zl 8 0 σ27 _ (by omega) o27' n27 ((kw17.fu (Or.inr (Or.inr (by decide)))).fu (Or.inr (Or.inr (by decide)))) ?_ ?_ ?_ ?_ ?_ (fun s hs => by omega)
  · rw [fu_n _ _ (by decide), fu_n _ _ (by decide)]; exact w177
  · rw [fu_n _ _ (by decide), fu_n _ _ (by decide), hw17, fu_n _ _ (by decide)]; exact fu_s _ _ _
  · rw [fu_n _ _ (by decide), fu_n _ _ (by decide), hw17]; exact fu_s _ _ _
  · rw [fu_n _ _ (by decide)]; exact fu_s _ _ _
  · exact fu_s _ _ _
