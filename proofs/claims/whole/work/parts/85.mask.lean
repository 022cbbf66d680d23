theorem m_ans {X : ZS} {σ α : ZM} {T : Int → ZM → Prop} {q : Nat} {f g : Int → Int} (ms : MS σ α) (ok : Ok α) (u0 : α 0 2 ≠ -1) (S1 : 1 ≤ α 0 0) (Q : MPl σ q f g) (q1 : 1 ≤ q) (h : ∀ σ', Ou 211 229 σ σ' → MS σ' (s_guess α f g q) → T (o_guess α f g q) σ') : ZC X (rX12_isAnswered zN) mX12_isAnswered [(2, 211)] zN σ (zQz (fun r σ' => ((r = false) → T (-7) σ') ∧ ((r = true) → T 0 σ'))) := by
  unfold s_guess o_guess at h
  refine m_isAnswered ms ok u0 S1 Q q1 (fun nk σ' m' o' => ⟨fun _ => ?_, fun q => (by cases q)⟩) (fun kf σ' m' o' => ⟨fun q => (by cases q), fun _ => ?_⟩)
  · rw [if_neg nk, if_neg nk] at h; exact h σ' o' m'
  · rw [if_pos kf, if_pos kf] at h; exact h σ' o' m'
theorem m_ask {X : ZS} {σ α : ZM} {T : Int → ZM → Prop} {x y : Int} (hx : r32 x) (hy : r32 y) (ms : MS σ α) (ok : Ok α) (h : ∀ σ', Ou 211 229 σ σ' → MS σ' (s_ask α x y) → T (o_ask α x y) σ') : ZC X (rX12_ask zN) mX12_ask [(2, 211), (0, x), (0, y)] zN σ (zQi T) := by
  have s8 := ok.s
  have u := ok.u
  have L6 := ok.l
  have hf := ms.fix
  have no4 : ¬ (-20 ≤ x ∧ x ≤ 20 ∧ -20 ≤ y ∧ y ≤ 20) → T (-4) σ := fun p => by
    have eo : o_ask α x y = -4 := by unfold o_ask; exact if_pos p
    have es : s_ask α x y = α := by unfold s_ask; exact if_pos p
    rw [eo, es] at h
    exact h σ Ou.rfl' ms
  refine bk_X12_ask ⟨hx, m_isIn (r64_of32 hx) (by decide) (by decide) (fun x1 x2 => ⟨fun q => (by cases q), fun _ => ⟨hy, m_isIn (r64_of32 hy) (by decide) (by decide) (fun y1 y2 => ⟨fun _ => ?_, fun q => (by cases q)⟩) (fun q => ⟨fun q => (by cases q), fun _ => no4 (by omega)⟩)⟩⟩) (fun q => ⟨fun _ => no4 (by omega), fun q => (by cases q)⟩)⟩
  have pp : ¬ ¬ (-20 ≤ x ∧ x ≤ 20 ∧ -20 ≤ y ∧ y ≤ 20) := fun q => q ⟨x1, x2, y1, y2⟩
  have no5 : (α 0 2 = -1 ∨ α 0 0 = 0) → T (-5) σ := fun ng => by
    have eo : o_ask α x y = -5 := by unfold o_ask; rw [if_neg pp, if_pos ng]
    have es : s_ask α x y = α := by unfold s_ask; rw [if_neg pp, if_pos ng]
    rw [eo, es] at h
    exact h σ Ou.rfl' ms
  have e11 := ms.2.2.2.2.1
  have e4 := ms.2.2.1.1
  rw [e11, e4]
  refine ⟨by constructor <;> omega, fun q => no5 (Or.inl q), fun q => ⟨by constructor <;> omega, fun q2 => ⟨hf, ?_⟩, fun q2 => no5 (Or.inr q2)⟩⟩
  have ng : ¬ (α 0 2 = -1 ∨ α 0 0 = 0) := by omega
  have eo : o_ask α x y = o_guess α (fun _ => x) (fun _ => y) 1 := by unfold o_ask; rw [if_neg pp, if_neg ng]
  have es : s_ask α x y = s_guess α (fun _ => x) (fun _ => y) 1 := by unfold s_ask; rw [if_neg pp, if_neg ng]
  rw [eo, es] at h
  obtain ⟨τ, hτ⟩ : ∃ τ : ZM, τ = z_up (z_up (z_up σ 211 23 1) 226 0 x) 227 0 y := ⟨_, rfl⟩
  rw [← hτ]
  have fτ : Fix τ := by rw [hτ]; exact ((hf.upF la_211 23 (by decide +kernel)).upA la_226 (by decide)).upA la_227 (by decide)
  have oτ : Mw σ τ := by rw [hτ]; exact ((Mw.rfl'.up (Or.inr ⟨rfl, by decide⟩)).up (Or.inl (by decide))).up (Or.inl (by decide))
  have msτ : MS τ α := by
    have ms0 := ms
    obtain ⟨⟨v, nv, mv⟩, _⟩ := ms0
    exact ms.mw oτ (nv.row fτ (by rw [hτ, z_up_far _ _ _ (by decide), z_up_far _ _ _ (by decide), z_up_far _ _ _ (by decide)])) mv
  have Qτ : MPl τ 1 (fun _ => x) (fun _ => y) := by
    refine ⟨?_, by decide, fun j j0 j1 => ?_⟩
    · rw [hτ, z_up_far _ _ _ (by decide), z_up_far _ _ _ (by decide), z_up_same]; rfl
    · have : j = 0 := by omega
      subst this
      refine ⟨?_, ?_, ⟨x1, x2⟩, y1, y2⟩
      · rw [hτ, z_up_far _ _ _ (by decide), z_up_same]
      · rw [hτ, z_up_same]
  exact m_ans msτ ok q (by omega) Qτ (Nat.le_refl _) (fun σ' o' m' => h σ' (oτ.ou.trans o') m')
theorem m_mean {X : ZS} {σ α : ZM} {T : Int → ZM → Prop} {k : Int} (hk : r32 k) (ms : MS σ α) (ok : Ok α) (h : ∀ σ', Ou 211 229 σ σ' → MS σ' (s_mean α k) → T (o_mean α k) σ') : ZC X (rX12_mean zN) mX12_mean [(2, 211), (0, k)] zN σ (zQi T) := by
  have s8 := ok.s
  have u := ok.u
  have L6 := ok.l
  have hf := ms.fix
  have ml := ms.2.1
  refine bk_X12_mean (m_isSlot hk (fun k0 k8 => ⟨fun _ => ⟨hf, k0, k8, ?_⟩, fun q => (by cases q)⟩) (fun q => ⟨fun q => (by cases q), fun _ => ?_⟩))
  · have k08 : ¬ ¬ (0 ≤ k ∧ k < 8) := fun q => q ⟨k0, k8⟩
    have ek := ok.e k k0 k8
    have lk := ml k k0 k8
    rw [lk.1]
    refine ⟨by constructor <;> omega, fun ke => ?_, fun ke => ?_⟩
    · -- the row of what is read
      have mst : ∀ τ : ZM, Fix τ → (∀ c : Int, c ≠ 225 → τ c = σ c) → MS τ α := fun τ f o => by
        have ms0 := ms
        obtain ⟨⟨v, n, mv⟩, _⟩ := ms0
        exact ms.mw ⟨fun c _ _ _ => o c (by omega), fun c _ => o c (by omega), fun i _ => by rw [o 211 (by decide)]⟩ (n.row f (o 212 (by decide))) mv
      have no : ∀ (τ : ZM) (e : Int), Fix τ → (∀ c : Int, c ≠ 225 → τ c = σ c) → rdM α k = e → e < 0 → T e τ := fun τ e f o he q => by
        have eo : o_mean α k = e := by unfold o_mean; rw [if_neg k08, if_neg ke, if_pos (by omega), he]
        have es : s_mean α k = α := by unfold s_mean; rw [if_neg k08, if_neg ke, if_pos (by omega)]
        rw [eo, es] at h
        exact h τ (fun c hc => o c (by omega)) (mst τ f o)
      have loop2 : ∀ (m : Nat), α 8 (60 * k + 0) = m → 1 ≤ m → m ≤ 6 → rdM α k = 0 → ¬ (α 0 2 = -1 ∨ α 0 0 = 0) → ∀ (τ0 : ZM), MS τ0 α → Ou 211 229 σ τ0 → (∀ i : Int, 0 ≤ i → i < 1 + 2 * (m : Int) → τ0 225 i = α 8 (60 * k + i)) → (∀ i : Int, 1 ≤ i → i < 1 + 2 * (m : Int) → -20 ≤ α 8 (60 * k + i) ∧ α 8 (60 * k + i) ≤ 20) → ∀ (l j : Nat) (τ : ZM), j + l = m → Fix τ → (∀ c : Int, c ≠ 211 → c ≠ 226 → c ≠ 227 → τ c = τ0 c) → (∀ i : Int, i ≠ 23 → τ 211 i = τ0 211 i) → τ 211 23 = m → (∀ i : Int, 0 ≤ i → i < j → τ 226 i = fM α k i ∧ τ 227 i = hM α k i) → Z X (rX12_mean zN) mX12_mean 160 [(2, 211), (9, 0), (9, 0), (9, 0), (0, (j : Int)), (9, 0), (9, 0)] [] zN τ (zQi T) := by
        intro m hm m1 m6 z ng τ0 ms0 ou0 vt0 vr l
        have eo : o_mean α k = o_guess α (fM α k) (hM α k) m := by unfold o_mean; rw [if_neg k08, if_neg ke, if_neg (by omega), if_neg ng, hm]; rfl
        have es : s_mean α k = s_guess α (fM α k) (hM α k) m := by unfold s_mean; rw [if_neg k08, if_neg ke, if_neg (by omega), if_neg ng, hm]; rfl
        rw [eo, es] at h
        induction l with
        | zero =>
          intro j τ hj f o o1 t23 tx
          have : j = m := by omega
          subst this
          have mt : MS τ α := by
            have ms1 := ms0
            obtain ⟨⟨v, n, mv⟩, _⟩ := ms1
            exact ms0.mw ⟨fun c c1 _ c3 => o c c1 (by omega) (by omega), fun c c1 => o c (by omega) (by omega) (by omega), fun i hi => o1 i (by omega)⟩ (n.row f (o 212 (by decide) (by decide) (by decide))) mv
          have Qt : MPl τ j (fM α k) (hM α k) := ⟨t23, m6, fun i i0 i1 => ⟨(tx i i0 i1).1, (tx i i0 i1).2, vr (1 + 2 * i) (by omega) (by omega), vr (2 + 2 * i) (by omega) (by omega)⟩⟩
          refine bk_X12_mean_160 ⟨by constructor <;> omega, by rw [t23]; constructor <;> omega, fun _ => m_ans mt ok (by omega) (by omega) Qt m1 (fun σ' o' m' => h σ' (fun c hc => ?_) m'), fun q => absurd (by rw [t23]; exact Int.le_refl _) q⟩
          rw [o' c hc, o c (by omega) (by omega) (by omega), ou0 c hc]
        | succ l ih =>
          intro j τ hj f o o1 t23 tx
          refine bk_X12_mean_160 ⟨by constructor <;> omega, by rw [t23]; constructor <;> omega, fun q => absurd q (by rw [t23]; omega), fun _ => ⟨f, by omega, by omega, by omega, by omega, by omega, by omega, ?_⟩⟩
          rw [o 225 (by decide) (by decide) (by decide), vt0 (1 + 2 * (j : Int)) (by omega) (by omega), vt0 (2 + 2 * (j : Int)) (by omega) (by omega)]
          refine ih (j + 1) _ (by omega) ((f.upA la_226 (by decide)).upA la_227 (by decide)) (fun c c1 c2 c3 => ?_) (fun i hi => ?_) ?_ (fun i i0 i1 => ?_)
          · rw [z_up_far _ _ _ c3, z_up_far _ _ _ c2]; exact o c c1 c2 c3
          · rw [z_up_far _ _ _ (by decide), z_up_far _ _ _ (by decide)]; exact o1 i hi
          · rw [z_up_far _ _ _ (by decide), z_up_far _ _ _ (by decide)]; exact t23
          · rw [z_up_far _ _ _ (by decide), z_up_row, z_up_row, z_up_far _ _ _ (by decide)]
            by_cases q : i = j
            · subst q; rw [fu_s, fu_s]; exact ⟨rfl, rfl⟩
            · rw [fu_n _ _ q, fu_n _ _ q]; exact tx i i0 (by omega)
      have loop : ∀ (m : Nat), α 8 (60 * k + 0) = m → 1 ≤ m → m ≤ 6 → ∀ (l : Nat) (t : Int) (τ : ZM), 1 ≤ t → t + l = 1 + 2 * (m : Int) → Fix τ → (∀ c : Int, c ≠ 225 → τ c = σ c) → (∀ i : Int, 0 ≤ i → i < t → τ 225 i = α 8 (60 * k + i)) → (∀ i : Int, 1 ≤ i → i < t → -20 ≤ α 8 (60 * k + i) ∧ α 8 (60 * k + i) ≤ 20) → rdM α k = chk (α 6 k - 1) (gM α k) t l → Z X (rX12_mean zN) mX12_mean 36 [(2, 211), (0, k), (0, α 6 k - 1), (0, 1 + 2 * (m : Int)), (0, t), (9, 0), (9, 0)] [] zN τ (zQi T) := by
        intro m hm m1 m6 l
        induction l with
        | zero =>
          intro t τ t0 ht f o v vr ec
          have mt := mst τ f o
          have e11 := mt.2.2.2.2.1
          have e4 := mt.2.2.1.1
          have ec : rdM α k = 0 := ec
          have no10 : (α 0 2 = -1 ∨ α 0 0 = 0) → T (-10) τ := fun ng => by
            have eo : o_mean α k = -10 := by unfold o_mean; rw [if_neg k08, if_neg ke, if_neg (by omega), if_pos ng]
            have es : s_mean α k = α := by unfold s_mean; rw [if_neg k08, if_neg ke, if_neg (by omega), if_pos ng]
            rw [eo, es] at h
            exact h τ (fun c hc => o c (by omega)) mt
          refine bk_X12_mean_36 ⟨by constructor <;> omega, by constructor <;> omega, fun _ => ?_, fun q => absurd (by omega) q⟩
          rw [e11, e4, v 0 (Int.le_refl _) (by omega), hm]
          refine ⟨by constructor <;> omega, fun q => no10 (Or.inl q), fun q => ⟨by constructor <;> omega, fun q2 => ⟨f, ?_⟩, fun q2 => no10 (Or.inr q2)⟩⟩
          exact loop2 m hm m1 m6 ec (by omega) τ mt (fun c hc => o c (by omega)) (fun i i0 i1 => v i i0 (by omega)) (fun i i0 i1 => vr i i0 (by omega)) m 0 _ (by omega) (f.upF la_211 23 (by decide +kernel)) (fun c c1 _ _ => z_up_far _ _ _ c1) (fun i hi => z_up_ne _ (Or.inr hi)) (z_up_same _ _ _ _) (fun i i0 i1 => by omega)
        | succ l ih =>
          intro t τ t0 ht f o v vr ec
          have ec : rdM α k = if α 6 k - 1 ≤ t then -6 else if gM α k t then chk (α 6 k - 1) (gM α k) (t + 1) l else -4 := ec
          refine bk_X12_mean_36 ⟨by constructor <;> omega, by constructor <;> omega, fun q => absurd q (by omega), fun _ => ⟨by constructor <;> omega, fun t1 => ⟨f, by omega, by omega, fun _ => ?_, fun q => absurd q (by omega)⟩, fun t1 => no τ (-6) f o (by rw [ec, if_pos (by omega)]) (by decide)⟩⟩
          rw [o 215 (by decide), (lk.2 ke).2 t (by omega) t1]
          refine m_isIn ((ek.2 ke).2 t (by omega) t1) (by decide) (by decide) (fun v1 v2 => ⟨fun _ => ⟨f, by omega, by omega, ?_⟩, fun q => (by cases q)⟩) (fun q => ⟨fun q => (by cases q), fun _ => no τ (-4) f o (by rw [ec, if_neg (by omega), show gM α k t = false from decide_eq_false q]; rfl) (by decide)⟩)
          rw [z_up_ne _ (Or.inr (by omega)), v 0 (Int.le_refl _) (by omega), hm]
          refine ih (t + 1) _ (by omega) (by omega) (f.upA la_225 (by decide)) (fun c hc => by rw [z_up_far _ _ _ hc]; exact o c hc) (fun i i0 i1 => ?_) (fun i i0 i1 => ?_) (by rw [ec, if_neg (by omega), if_pos (show gM α k t = true from decide_eq_true ⟨v1, v2⟩)])
          · rw [z_up_row]
            by_cases q : i = t
            · subst q; rw [fu_s]
            · rw [fu_n _ _ q]; exact v i i0 (by omega)
          · by_cases q : i = t
            · subst q; exact ⟨v1, v2⟩
            · exact vr i i0 (by omega)
      refine bk_X12_mean_36 ⟨by decide, by decide, fun q => absurd q (by decide), fun _ => ⟨by constructor <;> omega, fun t1 => ⟨hf, by omega, by omega, fun q => absurd rfl q, fun _ => ?_⟩, fun t1 => no σ (-6) hf (fun _ _ => rfl) (by unfold rdM; rw [if_pos (by omega)]) (by decide)⟩⟩
      rw [(lk.2 ke).2 0 (by omega) t1]
      refine m_isIn ((ek.2 ke).2 0 (by omega) t1) (by decide) (by decide) (fun v1 v2 => ⟨fun _ => ⟨hf, by omega, by omega, ?_⟩, fun q => (by cases q)⟩) (fun q => ⟨fun q => (by cases q), fun _ => no σ (-4) hf (fun _ _ => rfl) (by unfold rdM; rw [if_neg (by omega), if_neg q]) (by decide)⟩)
      rw [z_up_same]
      obtain ⟨m, hm⟩ : ∃ m : Nat, α 8 (60 * k + 0) = m := ⟨(α 8 (60 * k + 0)).toNat, by omega⟩
      have e0 : rdM α k = chk (α 6 k - 1) (gM α k) 1 (2 * m) := by
        unfold rdM; rw [if_neg (by omega), if_pos ⟨v1, v2⟩, hm]; rfl
      have L := loop m hm (by omega) (by omega) (2 * m) (0 + 1) (z_up σ 225 0 (α 8 (60 * k + 0))) (by omega) (by omega) (hf.upA la_225 (by decide)) (fun c hc => z_up_far _ _ _ hc) (fun i i0 i1 => by
        have : i = 0 := by omega
        subst this
        rw [z_up_same]) (fun i i0 i1 => by omega) e0
      rw [hm] at L ⊢
      exact L
    · have eo : o_mean α k = -5 := by unfold o_mean; rw [if_neg k08, if_pos ke]
      have es : s_mean α k = α := by unfold s_mean; rw [if_neg k08, if_pos ke]
      rw [eo, es] at h
      exact h σ Ou.rfl' ms
  · have eo : o_mean α k = -2 := by unfold o_mean; rw [if_pos q]
    have es : s_mean α k = α := by unfold s_mean; rw [if_pos q]
    rw [eo, es] at h
    exact h σ Ou.rfl' ms
