theorem b_seen {X : ZS} {σ α : ZM} {T : Int → ZM → Prop} {k : Int} (hk : r32 k) (cs : CS σ α) (ok : Ok α) (h : ∀ σ', Ou 1 210 σ σ' → CS σ' (s_seen α k) → T (o_seen α k) σ') : ZC X (rX11_seen zN) mX11_seen [(2, 1), (0, k)] zN σ (zQi T) := by
  have hf := cs.fix
  have cl := cs.2.1
  have bad : ∀ σ', Ou 1 210 σ σ' → CS σ' α → ∀ e, o_seen α k = e → e < 0 → T e σ' := fun σ' o c e he q => by
    unfold s_seen at h; rw [he, if_neg (by omega)] at h; exact h σ' o c
  refine bk_X11_seen ⟨hf, c_exists hk (fun k0 k8 => ⟨fun _ => ⟨hf, ?_⟩, fun q => (by cases q)⟩) (fun q => ⟨fun q => (by cases q), fun _ => bad σ Ou.rfl' cs (-2) (by unfold o_seen; rw [if_pos q]) (by decide)⟩)⟩
  have k08 : ¬ ¬ (0 ≤ k ∧ k < 8) := fun q => q ⟨k0, k8⟩
  refine c_sholds hk hf cl ok (fun _ _ ke => ⟨fun _ => ⟨hf, bk_X8_startReading ?_⟩, fun q => (by cases q)⟩) (fun q => ⟨fun q => (by cases q), fun _ => bad σ Ou.rfl' cs (-5) (by unfold o_seen; rw [if_neg k08, if_pos (by apply Classical.byContradiction; intro w; exact q ⟨k0, k8, w⟩)]) (by decide)⟩)
  have ek := ok.e k k0 k8
  obtain ⟨g1, g2⟩ := cs.2.2.1
  obtain ⟨s, hs⟩ : ∃ s, s = σ 1 12 := ⟨_, rfl⟩
  have hsv : s = 199 ∨ s = 205 := by omega
  have z := sl hsv
  have sp : ∀ c : Int, c = 1 ∨ (3 ≤ c ∧ c ≤ 7) ∨ (141 ≤ c ∧ c ≤ 168) ∨ (180 ≤ c ∧ c ≤ 183) ∨ (σ 1 11 + 1 ≤ c ∧ c ≤ σ 1 11 + 5) → c ≠ 2 ∧ (c < s + 1 ∨ s + 5 < c) := fun c hc => by omega
  have no : ∀ (τ : ZM) (e : Int), Fix τ → (∀ c : Int, c ≠ 2 → (c < s + 1 ∨ s + 5 < c) → τ c = σ c) → τ 2 8 = e → rdS α k = e → e < 0 → (Fix τ) ∧ T (τ 2 8) τ := fun τ e f o p8 he q => by
    refine ⟨f, ?_⟩
    rw [p8]
    exact bad τ (fun c hc => o c (by omega) (by omega)) (cs.tmp (cs.1.fr f (fun c _ _ _ => o c (by omega) (by omega))) (fun c hc => o c (sp c hc).1 (sp c hc).2)) e (by unfold o_seen; rw [if_neg k08, if_neg ke, if_pos (by omega), he]) q
  obtain ⟨σ0, hσ0⟩ : ∃ σ0 : ZM, σ0 = z_up (z_up (z_up σ 2 3 k) 2 4 0) 2 8 0 := ⟨_, rfl⟩
  rw [← hσ0]
  have f0 : Fix σ0 := by rw [hσ0]; exact ((hf.upF la_2 3 (by decide +kernel)).upF la_2 4 (by decide +kernel)).upF la_2 8 (by decide +kernel)
  have o0 : ∀ c : Int, c ≠ 2 → σ0 c = σ c := fun c hc => by rw [hσ0, z_up_far _ _ _ hc, z_up_far _ _ _ hc, z_up_far _ _ _ hc]
  have r3 : σ0 2 3 = k := by rw [hσ0, z_up_ne _ (Or.inr (by decide)), z_up_ne _ (Or.inr (by decide)), z_up_same]
  have r4 : σ0 2 4 = 0 := by rw [hσ0, z_up_ne _ (Or.inr (by decide)), z_up_same]
  refine bk_X11_readSights ?_
  rw [show σ0 1 12 = s by rw [o0 1 (by decide), hs]]
  refine ⟨z.1, f0, bk_X6_clear z.2.1 ?_⟩
  obtain ⟨σ1, hσ1⟩ : ∃ σ1 : ZM, σ1 = z_up σ0 (s + 1) 2 0 := ⟨_, rfl⟩
  rw [← hσ1]
  have f1 : Fix σ1 := by rw [hσ1]; exact f0.upF z.2.1 2 (by decide +kernel)
  have o1 : ∀ c : Int, c ≠ 2 → (c < s + 1 ∨ s + 5 < c) → σ1 c = σ c := fun c hc hs => by rw [hσ1, z_up_far _ _ _ (by omega)]; exact o0 c hc
  have u3 : σ1 2 3 = k := by rw [hσ1, z_up_far _ _ _ (by omega), r3]
  have u4 : σ1 2 4 = 0 := by rw [hσ1, z_up_far _ _ _ (by omega), r4]
  have us : σ1 (s + 1) 2 = 0 := by rw [hσ1, z_up_same]
  have cl1 : CL σ1 α := cl.fr (o1 3 (by decide) (by omega)) (o1 4 (by decide) (by omega)) (o1 5 (by decide) (by omega)) rfl rfl rfl
  refine ⟨f1, c_readNext f1 cl1 ok k0 k8 ke u3 u4 (Int.le_refl _) (by decide) (by decide) (by decide) (fun t1 v1 v2 => ⟨fun _ => ?_, fun q => (by cases q)⟩) (fun q => ⟨fun q => (by cases q), fun _ => ⟨fun q => (by cases q), fun _ => no _ (-6) (f1.upF la_2 8 (by decide +kernel)) (fun c c2 hc => by rw [z_up_far _ _ _ c2]; exact o1 c c2 hc) (z_up_same _ _ _ _) (by unfold rdS; rw [if_pos q]) (by decide)⟩⟩) (fun q1 q => ⟨fun q => (by cases q), fun _ => ⟨fun q => (by cases q), fun _ => no _ (-4) (f1.upF la_2 8 (by decide +kernel)) (fun c c2 hc => by rw [z_up_far _ _ _ c2]; exact o1 c c2 hc) (z_up_same _ _ _ _) (by unfold rdS; rw [if_neg (by omega), if_neg q]) (by decide)⟩⟩)⟩
  obtain ⟨m, hm⟩ : ∃ m : Nat, α 8 (60 * k + 0) = m := ⟨(α 8 (60 * k + 0)).toNat, by omega⟩
  have m8 : m ≤ 8 := by omega
  have e0 : rdS α k = chk (α 6 k - 1) (gS α k) 1 (4 * m) := by
    unfold rdS; rw [if_neg (by omega), if_pos ⟨v1, v2⟩, hm]; rfl
  rw [hm]
  obtain ⟨σ2, hσ2⟩ : ∃ σ2 : ZM, σ2 = z_up (z_up σ1 2 5 (m : Int)) 2 4 (0 + 1) := ⟨_, rfl⟩
  rw [← hσ2]
  have f2 : Fix σ2 := by rw [hσ2]; exact (f1.upF la_2 5 (by decide +kernel)).upF la_2 4 (by decide +kernel)
  have o2 : ∀ c : Int, c ≠ 2 → σ2 c = σ1 c := fun c hc => by rw [hσ2, z_up_far _ _ _ hc, z_up_far _ _ _ hc]
  have s5 : σ2 2 5 = m := by rw [hσ2, z_up_ne _ (Or.inr (by decide)), z_up_same]
  have s4 : σ2 2 4 = 1 := by rw [hσ2, z_up_same]; rfl
  have s3 : σ2 2 3 = k := by rw [hσ2, z_up_ne _ (Or.inr (by decide)), z_up_ne _ (Or.inr (by decide)), u3]
  rw [s5]
  refine ⟨f2, ?_⟩
  have loop : ∀ (l j : Nat) (τ : ZM), j + l = m → Fix τ → (∀ c : Int, c ≠ 2 → (c < s + 1 ∨ s + 5 < c) → τ c = σ c) → τ 2 3 = k → τ 2 4 = 1 + 4 * (j : Int) → τ (s + 1) 2 = j → (∀ i : Int, 0 ≤ i → i < j → τ (s + 2) i = α 8 (60 * k + (1 + 4 * i)) ∧ τ (s + 3) i = α 8 (60 * k + (2 + 4 * i)) ∧ τ (s + 4) i = α 8 (60 * k + (3 + 4 * i)) ∧ τ (s + 5) i = α 8 (60 * k + (4 + 4 * i))) → (∀ i : Int, 0 ≤ i → i < j → r32 (α 8 (60 * k + (1 + 4 * i))) ∧ r32 (α 8 (60 * k + (2 + 4 * i)))) → rdS α k = chk (α 6 k - 1) (gS α k) (1 + 4 * (j : Int)) (4 * l) →
      Z X (rX11_readSights zN) mX11_readSights 35 [(2, 1), (0, (m : Int)), (0, (j : Int))] [] zN τ (zQz (fun r10 σ11 => ((r10 = true) → (Fix σ11) ∧ (z_l (σ11 1 12) = (7, 3)) ∧ T (σ11 ((σ11 1 12) + 1) 2) (z_up (z_up (z_up σ11 1 11 (σ11 1 12)) 1 12 (σ11 1 11)) 141 6 0)) ∧ ((r10 = false) → (Fix σ11) ∧ T (σ11 2 8) σ11))) := by
    intro l
    induction l with
    | zero =>
      intro j τ hj f o t3 t4 ts tx tr ec
      have : j = m := by omega
      subst this
      have ec : rdS α k = 0 := ec
      refine bk_X11_readSights_35 ⟨by constructor <;> omega, by constructor <;> omega, fun _ => ⟨fun _ => ⟨f, ?_⟩, fun q => (by cases q)⟩, fun q => absurd (Int.le_refl _) q⟩
      have t12 : τ 1 12 = s := by rw [o 1 (by decide) (by omega), hs]
      have t11 : τ 1 11 = σ 1 11 := by rw [o 1 (by decide) (by omega)]
      rw [t12, t11]
      refine ⟨z.1, ?_⟩
      have eo : o_seen α k = j := by unfold o_seen; rw [if_neg k08, if_neg ke, if_neg (by omega), hm]
      unfold s_seen at h
      rw [eo, if_pos (by omega)] at h
      rw [ts]
      obtain ⟨ν, hν⟩ : ∃ ν : ZM, ν = z_up (z_up (z_up τ 1 11 s) 1 12 (σ 1 11)) 141 6 0 := ⟨_, rfl⟩
      rw [← hν]
      have fn : Fix ν := by rw [hν]; exact ((f.upF la_1 11 (by decide +kernel)).upF la_1 12 (by decide +kernel)).upF la_141 6 (by decide +kernel)
      have on : ∀ c : Int, c ≠ 1 → c ≠ 141 → ν c = τ c := fun c c1 c2 => by rw [hν, z_up_far _ _ _ c2, z_up_far _ _ _ c1, z_up_far _ _ _ c1]
      have on2 : ∀ c : Int, c ≠ 1 → c ≠ 2 → c ≠ 141 → (c < s + 1 ∨ s + 5 < c) → ν c = σ c := fun c c1 c2 c3 hc => by rw [on c c1 c3]; exact o c c2 hc
      have n1 : ∀ i : Int, i ≠ 11 → i ≠ 12 → ν 1 i = σ 1 i := fun i i1 i2 => by rw [hν, z_up_far _ _ _ (by decide), z_up_ne _ (Or.inr i2), z_up_ne _ (Or.inr i1), o 1 (by decide) (by omega)]
      have n11 : ν 1 11 = s := by rw [hν, z_up_far _ _ _ (by decide), z_up_ne _ (Or.inr (by decide)), z_up_same]
      have n12 : ν 1 12 = σ 1 11 := by rw [hν, z_up_far _ _ _ (by decide), z_up_same]
      obtain ⟨b, l, g, w, mm, an, r⟩ := cs
      refine h ν (fun c hc => on2 c (by omega) (by omega) (by omega) (by omega)) ⟨b.fr fn (fun c _ _ c3 => on2 c (by omega) (by omega) c3 (by omega)), l.fr (on2 3 (by decide) (by decide) (by decide) (by omega)) (on2 4 (by decide) (by decide) (by decide) (by omega)) (on2 5 (by decide) (by decide) (by decide) (by omega)) rfl rfl rfl, ⟨by rw [n11, n12]; omega, ?_⟩, w.fr (by rw [on2 6 (by decide) (by decide) (by decide) (by omega)]) (on2 7 (by decide) (by decide) (by decide) (by omega)) rfl rfl, ⟨by rw [n1 13 (by decide) (by decide)]; exact mm.1, by rw [n1 14 (by decide) (by decide)]; exact mm.2.1, by rw [hν, z_up_same]; rfl⟩, CA.none rfl, r.fr (fun c _ _ => on2 c (by omega) (by omega) (by omega) (by omega)) rfl⟩
      rw [n11]
      refine ⟨by rw [on _ (by omega) (by omega), ts]; exact hm.symm, fun i i0 i1 => ?_⟩
      have i1 : i < α 8 (60 * k + 0) := i1
      rw [on _ (by omega) (by omega), on _ (by omega) (by omega), on _ (by omega) (by omega), on _ (by omega) (by omega)]
      exact tx i i0 (by omega)
    | succ l ih =>
      intro j τ hj f o t3 t4 ts tx tr ec
      have clt : CL τ α := cl.fr (o 3 (by decide) (by omega)) (o 4 (by decide) (by omega)) (o 5 (by decide) (by omega)) rfl rfl rfl
      refine bk_X11_readSights_35 ⟨by constructor <;> omega, by constructor <;> omega, fun q => absurd q (by omega), fun _ => c_readSight (l := 4 * l) (s := s) f clt ok k0 k8 ke t3 t4 (by omega) hsv (by rw [o 1 (by decide) (by omega), hs]) ts (fun i i0 i1 => ⟨(tx i i0 i1).1, (tx i i0 i1).2.1⟩) tr (fun σ' f' o' q3 q4 q1 w2 w3 w4 w5 r1 r2 ec2 => ⟨fun _ => ?_, fun q => (by cases q)⟩) (fun σ' e f' o' p8 he q => ⟨fun q => (by cases q), fun _ => ⟨fun q => (by cases q), fun _ => no σ' e f' (fun c c2 hc => by rw [o' c c2]; exact o c c2 hc) p8 (by rw [ec]; exact he) q⟩⟩)⟩
      refine ih (j + 1) σ' (by omega) f' (fun c c2 hc => by rw [o' c c2 hc]; exact o c c2 hc) q3 q4 q1 (fun i i0 i1 => ?_) (fun i i0 i1 => ?_) (by rw [ec]; exact ec2)
      · rw [w2, w3, w4, w5]
        by_cases q : i = j
        · subst q; rw [fu_s, fu_s, fu_s, fu_s]; exact ⟨rfl, rfl, rfl, rfl⟩
        · rw [fu_n _ _ q, fu_n _ _ q, fu_n _ _ q, fu_n _ _ q]; exact tx i i0 (by omega)
      · by_cases q : i = j
        · subst q; exact ⟨r1, r2⟩
        · exact tr i i0 (by omega)
  exact loop m 0 σ2 (by omega) f2 (fun c c2 hc => by rw [o2 c c2]; exact o1 c c2 hc) s3 s4 (by rw [o2 _ (by omega), us]; rfl) (fun i i0 i1 => by omega) (fun i i0 i1 => by omega) e0
/-! the model -/
theorem m_seen {X : ZS} {σ α : ZM} {T : Int → ZM → Prop} {k : Int} (hk : r32 k) (ms : MS σ α) (ok : Ok α) (h : ∀ σ', Ou 211 229 σ σ' → MS σ' (s_seen α k) → T (o_seen α k) σ') : ZC X (rX12_seen zN) mX12_seen [(2, 211), (0, k)] zN σ (zQi T) := by
  have hf := ms.fix
  have ml := ms.2.1
  have bad : ∀ σ', Fix σ' → (∀ c : Int, c ≠ 225 → σ' c = σ c) → ∀ e, o_seen α k = e → e < 0 → T e σ' := fun σ' f o e he q => by
    unfold s_seen at h; rw [he, if_neg (by omega)] at h
    refine h σ' (fun c hc => o c (by omega)) ?_
    obtain ⟨⟨v, n, mv⟩, l, g, w, m⟩ := ms
    exact ⟨⟨v, n.row f (o 212 (by decide)), mv⟩, l.fr (o 213 (by decide)) (o 214 (by decide)) (o 215 (by decide)) rfl rfl rfl, g.fr (by rw [o 211 (by decide)]) (fun c _ _ => o c (by omega)) rfl rfl rfl rfl rfl, w.fr (by rw [o 211 (by decide)]) (o 220 (by decide)) rfl rfl, m.fr (by rw [o 211 (by decide)]) (by rw [o 211 (by decide)]) (by rw [o 211 (by decide)]) rfl rfl rfl⟩
  have bad0 : ∀ e, o_seen α k = e → e < 0 → T e σ := fun e he q => bad σ hf (fun _ _ => rfl) e he q
  refine bk_X12_seen (m_isSlot hk (fun k0 k8 => ⟨fun _ => ⟨hf, k0, k8, ?_⟩, fun q => (by cases q)⟩) (fun q => ⟨fun q => (by cases q), fun _ => bad0 (-2) (by unfold o_seen; rw [if_pos q]) (by decide)⟩))
  have k08 : ¬ ¬ (0 ≤ k ∧ k < 8) := fun q => q ⟨k0, k8⟩
  have ek := ok.e k k0 k8
  have lk := ml k k0 k8
  rw [lk.1]
  refine ⟨by constructor <;> omega, fun ke => ?_, fun ke => bad0 (-5) (by unfold o_seen; rw [if_neg k08, if_pos ke]) (by decide)⟩
  have no : ∀ (τ : ZM) (e : Int), Fix τ → (∀ c : Int, c ≠ 225 → τ c = σ c) → rdS α k = e → e < 0 → T e τ := fun τ e f o he q => bad τ f o e (by unfold o_seen; rw [if_neg k08, if_neg ke, if_pos (by omega), he]) q
  -- taking what was read
  have loop2 : ∀ (m : Nat), α 8 (60 * k + 0) = m → m ≤ 8 → rdS α k = 0 → ∀ (τ0 : ZM), (∀ c : Int, c ≠ 225 → τ0 c = σ c) → (∀ i : Int, 0 ≤ i → i < 1 + 4 * (m : Int) → τ0 225 i = α 8 (60 * k + i)) → ∀ (l j : Nat) (τ : ZM), j + l = m → Fix τ → (∀ c : Int, c ≠ 211 → (c < 216 ∨ 219 < c) → τ c = τ0 c) → (∀ i : Int, i ≠ 4 → τ 211 i = τ0 211 i) → τ 211 4 = m → (∀ i : Int, 0 ≤ i → i < j → τ 216 i = α 8 (60 * k + (1 + 4 * i)) ∧ τ 217 i = α 8 (60 * k + (2 + 4 * i)) ∧ τ 218 i = α 8 (60 * k + (3 + 4 * i)) ∧ τ 219 i = α 8 (60 * k + (4 + 4 * i))) → Z X (rX12_seen zN) mX12_seen 275 [(2, 211), (9, 0), (9, 0), (9, 0), (0, (j : Int)), (9, 0), (9, 0), (9, 0), (9, 0), (9, 0)] [] zN τ (zQi T) := by
    intro m hm m8 z τ0 ot0 vt0 l
    have eo : o_seen α k = m := by unfold o_seen; rw [if_neg k08, if_neg ke, if_neg (by omega), hm]
    unfold s_seen at h
    rw [eo, if_pos (by omega)] at h
    induction l with
    | zero =>
      intro j τ hj f o o1 t4 tx
      have : j = m := by omega
      subst this
      refine bk_X12_seen_275 ⟨by constructor <;> omega, by rw [t4]; constructor <;> omega, fun _ => ?_, fun q => absurd (by omega) q⟩
      rw [t4]
      refine h _ (fun c hc => by rw [z_up_far _ _ _ (by omega), o c (by omega) (by omega), ot0 c (by omega)]) (ms.sights (f.upF la_211 13 (by decide +kernel)) (fun c c1 c2 hc => by rw [z_up_far _ _ _ c1, o c c1 hc, ot0 c c2]) (fun i i4 i13 => by rw [z_up_ne _ (Or.inr i13), o1 i i4, ot0 211 (by decide)]) (z_up_same _ _ _ _) rfl rfl rfl rfl (fun c c5 => ?_) ⟨?_, fun i i0 i1 => ?_⟩)
      · unfold sg_all
        rw [rp_n _ _ (by omega), rp_n _ _ (by omega), rp_n _ _ (by omega), rp_n _ _ (by omega), rp_n _ _ (by omega)]
      · rw [z_up_ne _ (Or.inr (by decide)), t4]; exact hm.symm
      · have i1 : i < α 8 (60 * k + 0) := i1
        rw [z_up_far _ _ _ (by decide), z_up_far _ _ _ (by decide), z_up_far _ _ _ (by decide), z_up_far _ _ _ (by decide)]
        exact tx i i0 (by omega)
    | succ l ih =>
      intro j τ hj f o o1 t4 tx
      refine bk_X12_seen_275 ⟨by constructor <;> omega, by rw [t4]; constructor <;> omega, fun q => absurd q (by omega), fun _ => ⟨f, by omega, by omega, by omega, by omega, by omega, by omega, by omega, by omega, by omega, by omega, ?_⟩⟩
      rw [o 225 (by decide) (by decide), vt0 (1 + 4 * (j : Int)) (by omega) (by omega), vt0 (2 + 4 * (j : Int)) (by omega) (by omega), vt0 (3 + 4 * (j : Int)) (by omega) (by omega), vt0 (4 + 4 * (j : Int)) (by omega) (by omega)]
      refine ih (j + 1) _ (by omega) ((((f.upA la_216 (by decide)).upA la_217 (by decide)).upA la_218 (by decide)).upA la_219 (by decide)) (fun c c1 hc => ?_) (fun i i4 => ?_) ?_ (fun i i0 i1 => ?_)
      · rw [z_up_far _ _ _ (by omega), z_up_far _ _ _ (by omega), z_up_far _ _ _ (by omega), z_up_far _ _ _ (by omega)]; exact o c c1 hc
      · rw [z_up_far _ _ _ (by omega), z_up_far _ _ _ (by omega), z_up_far _ _ _ (by omega), z_up_far _ _ _ (by omega)]; exact o1 i i4
      · rw [z_up_far _ _ _ (by omega), z_up_far _ _ _ (by omega), z_up_far _ _ _ (by omega), z_up_far _ _ _ (by omega)]; exact t4
      · rw [z_up_far _ _ _ (by decide), z_up_far _ _ _ (by decide), z_up_far _ _ _ (by decide), z_up_row, z_up_far _ _ _ (by decide), z_up_far _ _ _ (by decide), z_up_row, z_up_far _ _ _ (by decide), z_up_far _ _ _ (by decide), z_up_row, z_up_far _ _ _ (by decide), z_up_far _ _ _ (by decide), z_up_row, z_up_far _ _ _ (by decide), z_up_far _ _ _ (by decide), z_up_far _ _ _ (by decide)]
        by_cases q : i = j
        · subst q; rw [fu_s, fu_s, fu_s, fu_s]; exact ⟨rfl, rfl, rfl, rfl⟩
        · rw [fu_n _ _ q, fu_n _ _ q, fu_n _ _ q, fu_n _ _ q]; exact tx i i0 (by omega)
  -- one number behind the other
  have loop : ∀ (m : Nat), α 8 (60 * k + 0) = m → m ≤ 8 → ∀ (l : Nat) (t : Int) (τ : ZM), 1 ≤ t → t + l = 1 + 4 * (m : Int) → Fix τ → (∀ c : Int, c ≠ 225 → τ c = σ c) → (∀ i : Int, 0 ≤ i → i < t → τ 225 i = α 8 (60 * k + i) ∧ r32 (α 8 (60 * k + i))) → rdS α k = chk (α 6 k - 1) (gS α k) t l → Z X (rX12_seen zN) mX12_seen 36 [(2, 211), (0, k), (0, α 6 k - 1), (0, 1 + 4 * (m : Int)), (0, t), (9, 0), (9, 0), (9, 0), (9, 0), (9, 0)] [] zN τ (zQi T) := by
    intro m hm m8 l
    induction l with
    | zero =>
      intro t τ t0 ht f o v ec
      refine bk_X12_seen_36 ⟨by constructor <;> omega, by constructor <;> omega, fun _ => ⟨f, ?_⟩, fun q => absurd (by omega) q⟩
      rw [(v 0 (Int.le_refl _) (by omega)).1, hm]
      exact loop2 m hm m8 ec τ o (fun i i0 i1 => (v i i0 (by omega)).1) m 0 _ (by omega) (f.upF la_211 4 (by decide +kernel)) (fun c c1 _ => z_up_far _ _ _ c1) (fun i i4 => z_up_ne _ (Or.inr i4)) (z_up_same _ _ _ _) (fun i i0 i1 => by omega)
    | succ l ih =>
      intro t τ t0 ht f o v ec
      have ec : rdS α k = if α 6 k - 1 ≤ t then -6 else if gS α k t then chk (α 6 k - 1) (gS α k) (t + 1) l else -4 := ec
      refine bk_X12_seen_36 ⟨by constructor <;> omega, by constructor <;> omega, fun q => absurd q (by omega), fun _ => ⟨by constructor <;> omega, fun t1 => ⟨f, by omega, by omega, fun _ => ⟨by constructor <;> omega, ?_⟩, fun q => absurd q (by omega)⟩, fun t1 => no τ (-6) f o (by rw [ec, if_pos (by omega)]) (by decide)⟩⟩
      rw [o 215 (by decide), (lk.2 ke).2 t (by omega) t1]
      have rv := (ek.2 ke).2 t (by omega) t1
      have em : Int.tmod (t - 1) 4 = (t - 1) % 4 := Int.tmod_eq_emod_of_nonneg (by omega)
      rw [em]
      rw [if_neg (by omega)] at ec
      have md : (t - 1) % 4 = 0 ∨ (t - 1) % 4 = 1 ∨ (t - 1) % 4 = 2 ∨ (t - 1) % 4 = 3 := by omega
      obtain ⟨y, hy⟩ : ∃ y : Int, y = (t - 1) % 4 := ⟨_, rfl⟩
      rw [← hy]
      have gu : gS α k t = if y = 0 then decide (-20 ≤ α 8 (60 * k + t) ∧ α 8 (60 * k + t) ≤ 20) else if y = 1 then (decide (-20 ≤ α 8 (60 * k + t) ∧ α 8 (60 * k + t) ≤ 20) && !dupS α k ((t - 2) / 4).toNat) else if y = 2 then decide (-1000 ≤ α 8 (60 * k + t) ∧ α 8 (60 * k + t) ≤ 1000) else decide (0 ≤ α 8 (60 * k + t) ∧ α 8 (60 * k + t) ≤ 100) := by rw [hy]; rfl
      rw [← hy] at md
      -- what follows a good number
      have good : gS α k t = true → r32 (α 8 (60 * k + t)) → Z X (rX12_seen zN) mX12_seen 36 [(2, 211), (0, k), (0, α 6 k - 1), (0, 1 + 4 * (m : Int)), (0, t + 1), (9, 0), (9, 0), (9, 0), (9, 0), (9, 0)] [] zN (z_up τ 225 t (α 8 (60 * k + t))) (zQi T) := fun g r => by
        refine ih (t + 1) _ (by omega) (by omega) (f.upA la_225 (by decide)) (fun c hc => by rw [z_up_far _ _ _ hc]; exact o c hc) (fun i i0 i1 => ?_) (by rw [ec, if_pos g])
        rw [z_up_row]
        by_cases q : i = t
        · subst q; rw [fu_s]; exact ⟨rfl, r⟩
        · rw [fu_n _ _ q]; exact v i i0 (by omega)
      have wrong : gS α k t = false → T (-4) τ := fun g => no τ (-4) f o (by rw [ec, g]; rfl) (by decide)
      -- from the test on
      have test : ∀ (b : Bool) (x9 : Int), y ≠ 1 → (b = true → gS α k t = true ∧ r32 (α 8 (60 * k + t))) → (b = false → gS α k t = false) → Z X (rX12_seen zN) mX12_seen 154 [(2, 211), (0, k), (0, α 6 k - 1), (0, 1 + 4 * (m : Int)), (0, t), (1, α 8 (60 * k + t)), (9, 0), (0, y), (0, zb b), (0, x9)] [] zN τ (zQi T) := fun b x9 y1 hb1 hb0 => by
        cases b with
        | true =>
          have hg := hb1 rfl
          exact bk_X12_seen_154 ⟨by decide, fun q => absurd q (by decide), fun _ => ⟨by constructor <;> omega, fun _ => ⟨fun _ => ⟨f, by omega, by omega, by constructor <;> omega, fun _ => good hg.1 hg.2, fun q => absurd q (by omega)⟩, fun q => absurd q (by decide)⟩, fun q => absurd q y1⟩⟩
        | false => exact bk_X12_seen_154 ⟨by decide, fun _ => ⟨fun q => absurd rfl q, fun _ => wrong (hb0 rfl)⟩, fun q => absurd rfl q⟩
      refine bk_X12_seen_80 ⟨by constructor <;> omega, fun _ => ⟨fun y2 => ⟨fun y3 => ?_, fun y3 => ?_⟩, fun y2 => ?_⟩, fun q => absurd q (by omega)⟩
      · rw [if_neg (by omega), if_neg (by omega), if_neg y3] at gu
        exact m_isIn rv (by decide) (by decide) (fun a b => test true 1 (by omega) (fun _ => ⟨by rw [gu]; exact decide_eq_true ⟨a, b⟩, by constructor <;> omega⟩) (fun q => (by cases q))) (fun q => test false 1 (by omega) (fun q => (by cases q)) (fun _ => by rw [gu]; exact decide_eq_false q))
      · rw [if_neg (by omega), if_neg (by omega), if_pos y3] at gu
        exact m_isIn rv (by decide) (by decide) (fun a b => test true 1 (by omega) (fun _ => ⟨by rw [gu]; exact decide_eq_true ⟨a, b⟩, by constructor <;> omega⟩) (fun q => (by cases q))) (fun q => test false 1 (by omega) (fun q => (by cases q)) (fun _ => by rw [gu]; exact decide_eq_false q))
      · by_cases y0 : y = 0
        · rw [if_pos y0] at gu
          exact m_isIn rv (by decide) (by decide) (fun a b => test true 1 (by omega) (fun _ => ⟨by rw [gu]; exact decide_eq_true ⟨a, b⟩, by constructor <;> omega⟩) (fun q => (by cases q))) (fun q => test false 1 (by omega) (fun q => (by cases q)) (fun _ => by rw [gu]; exact decide_eq_false q))
        · have y1 : y = 1 := by omega
          rw [if_neg y0, if_pos y1] at gu
          refine m_isIn rv (by decide) (by decide) (fun a b => ?_) (fun q => ?_)
          · rw [decide_eq_true ⟨a, b⟩, Bool.true_and] at gu
            have rt : r32 (α 8 (60 * k + t)) := by constructor <;> omega
            obtain ⟨J, hJ⟩ : ∃ J : Nat, t = 2 + 4 * (J : Int) := ⟨((t - 2) / 4).toNat, by omega⟩
            rw [show ((t - 2) / 4).toNat = J by omega] at gu
            have t1J : t - 1 = 1 + 4 * (J : Int) := by omega
            have dupf : (∀ i : Int, 0 ≤ i → i < J → ¬ (α 8 (60 * k + (1 + 4 * i)) = α 8 (60 * k + (t - 1)) ∧ α 8 (60 * k + (2 + 4 * i)) = α 8 (60 * k + t))) → dupS α k J = false := fun w => by
              apply Bool.eq_false_iff.mpr
              intro q
              obtain ⟨i, i0, i1, i2, i3⟩ := tkb_iff.mp q
              exact w i i0 i1 ⟨by rw [t1J]; exact i2, by rw [hJ]; exact i3⟩
            have fnd : ∀ (x9 : Int), dupS α k J = true → Z X (rX12_seen zN) mX12_seen 154 [(2, 211), (0, k), (0, α 6 k - 1), (0, 1 + 4 * (m : Int)), (0, t), (1, α 8 (60 * k + t)), (9, 0), (0, y), (0, 0), (0, x9)] [] zN τ (zQi T) := fun x9 w => bk_X12_seen_154 ⟨by decide, fun _ => ⟨fun q => absurd rfl q, fun _ => wrong (by rw [gu, w]; rfl)⟩, fun q => absurd rfl q⟩
            have dloop : ∀ (d i : Nat), i + d = J → (∀ i' : Int, 0 ≤ i' → i' < i → ¬ (α 8 (60 * k + (1 + 4 * i')) = α 8 (60 * k + (t - 1)) ∧ α 8 (60 * k + (2 + 4 * i')) = α 8 (60 * k + t))) → Z X (rX12_seen zN) mX12_seen 154 [(2, 211), (0, k), (0, α 6 k - 1), (0, 1 + 4 * (m : Int)), (0, t), (1, α 8 (60 * k + t)), (9, 0), (0, y), (0, 1), (0, 1 + 4 * (i : Int))] [] zN τ (zQi T) := by
              intro d
              induction d with
              | zero =>
                intro i hi w
                have : i = J := by omega
                subst this
                exact bk_X12_seen_154 ⟨by decide, fun q => absurd q (by decide), fun _ => ⟨by constructor <;> omega, fun q => absurd y1 q, fun _ => ⟨by constructor <;> omega, by constructor <;> omega, fun _ => ⟨fun _ => ⟨f, by omega, by omega, by constructor <;> omega, fun _ => good (by rw [gu, dupf w]; rfl) rt, fun q => absurd q (by omega)⟩, fun q => absurd q (by decide)⟩, fun q => absurd (by omega) q⟩⟩⟩
              | succ d ih2 =>
                intro i hi w
                have v1 := v (1 + 4 * (i : Int)) (by omega) (by omega)
                have v2 := v (1 + 4 * (i : Int) + 1) (by omega) (by omega)
                have v3 := v (t - 1) (by omega) (by omega)
                have e2 : 1 + 4 * (i : Int) + 1 = 2 + 4 * (i : Int) := by omega
                have nx : ¬ (α 8 (60 * k + (1 + 4 * (i : Int))) = α 8 (60 * k + (t - 1)) ∧ α 8 (60 * k + (2 + 4 * (i : Int))) = α 8 (60 * k + t)) → Z X (rX12_seen zN) mX12_seen 154 [(2, 211), (0, k), (0, α 6 k - 1), (0, 1 + 4 * (m : Int)), (0, t), (1, α 8 (60 * k + t)), (9, 0), (0, y), (0, 1), (0, (1 + 4 * (i : Int) + 4))] [] zN τ (zQi T) := fun q => by
                  have := ih2 (i + 1) (by omega) (fun i' i0 i1 => by
                    by_cases w2 : i' = i
                    · subst w2; exact q
                    · exact w i' i0 (by omega))
                  rw [show 1 + 4 * ((i + 1 : Nat) : Int) = 1 + 4 * (i : Int) + 4 by omega] at this
                  exact this
                refine bk_X12_seen_154 ⟨by decide, fun q => absurd q (by decide), fun _ => ⟨by constructor <;> omega, fun q => absurd y1 q, fun _ => ⟨by constructor <;> omega, by constructor <;> omega, fun q => absurd q (by omega), fun _ => ?_⟩⟩⟩
                rw [v1.1, v2.1, v3.1]
                refine ⟨f, by omega, by omega, by omega, by omega, v1.2, v3.2, fun q => nx (fun w => q w.1), fun q => ⟨by omega, by omega, v2.2, r64_of32 v2.2, rv, fun q2 => fnd _ ?_, fun q2 => nx (fun w => q2 (by rw [e2]; exact w.2))⟩⟩
                exact tkb_iff.mpr ⟨i, by omega, by omega, by rw [← t1J]; exact q, by rw [← hJ, ← e2]; exact q2⟩
            exact dloop J 0 (by omega) (fun i' i0 i1 => by omega)
          · rw [decide_eq_false q, Bool.false_and] at gu
            exact bk_X12_seen_154 ⟨by decide, fun _ => ⟨fun q => absurd rfl q, fun _ => wrong gu⟩, fun q => absurd rfl q⟩
  refine bk_X12_seen_36 ⟨by decide, by decide, fun q => absurd q (by decide), fun _ => ⟨by constructor <;> omega, fun t1 => ⟨hf, by omega, by omega, fun q => absurd rfl q, fun _ => ?_⟩, fun t1 => no σ (-6) hf (fun _ _ => rfl) (by unfold rdS; rw [if_pos (by omega)]) (by decide)⟩⟩
  rw [(lk.2 ke).2 0 (by omega) t1]
  refine bk_X12_seen_80 ⟨by decide, fun q => absurd rfl q, fun _ => m_isIn ((ek.2 ke).2 0 (by omega) t1) (by decide) (by decide) (fun v1 v2 => ?_) (fun q => ?_)⟩
  · obtain ⟨m, hm⟩ : ∃ m : Nat, α 8 (60 * k + 0) = m := ⟨(α 8 (60 * k + 0)).toNat, by omega⟩
    have e0 : rdS α k = chk (α 6 k - 1) (gS α k) 1 (4 * m) := by
      unfold rdS; rw [if_neg (by omega), if_pos ⟨v1, v2⟩, hm]; rfl
    refine bk_X12_seen_154 ⟨by decide, fun q => absurd q (by decide), fun _ => ⟨by decide, fun _ => ⟨fun _ => ⟨hf, by omega, by omega, by decide, fun q => absurd rfl q, fun _ => ?_⟩, fun q => absurd q (by decide)⟩, fun q => absurd q (by decide)⟩⟩
    rw [z_up_same]
    have L := loop m hm (by omega) (4 * m) (0 + 1) (z_up σ 225 0 (α 8 (60 * k + 0))) (by omega) (by omega) (hf.upA la_225 (by decide)) (fun c hc => z_up_far _ _ _ hc) (fun i i0 i1 => by
      have : i = 0 := by omega
      subst this
      rw [z_up_same]; exact ⟨rfl, by constructor <;> omega⟩) e0
    rw [hm] at L ⊢
    exact L
  · exact bk_X12_seen_154 ⟨by decide, fun _ => ⟨fun q => absurd rfl q, fun _ => no σ (-4) hf (fun _ _ => rfl) (by unfold rdS; rw [if_neg (by omega), if_neg q]) (by decide)⟩, fun q => absurd rfl q⟩
