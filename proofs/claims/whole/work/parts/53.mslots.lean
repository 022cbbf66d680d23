theorem m_isSlot {X : ZS} {σ : ZM} {T : Bool → ZM → Prop} {k : Int} (hr : r32 k) (h1 : 0 ≤ k → k < 8 → T true σ) (h0 : ¬ (0 ≤ k ∧ k < 8) → T false σ) : ZC X (rX12_isSlot zN) mX12_isSlot [(0, k)] zN σ (zQz T) :=
  bk_X12_isSlot ⟨hr, fun q => h0 (by omega), fun q => ⟨fun q2 => h0 (by omega), fun q2 => h1 (by omega) (by omega)⟩⟩
theorem MS.slots {σ σ' α α' : ZM} (h : MS σ α) (o : Ou 213 215 σ σ') (hf : Fix σ') (a : ∀ c : Int, c ≠ 6 → c ≠ 7 → c ≠ 8 → α' c = α c) (hl : ML σ' α') : MS σ' α' := by
  obtain ⟨⟨v, n, mv⟩, l, g, w, m⟩ := h
  have oc : ∀ c : Int, 216 ≤ c ∨ c < 213 → σ' c = σ c := fun c hc => o c (by omega)
  have e0 := a 0 (by decide) (by decide) (by decide)
  have e := oc 211 (by omega)
  exact ⟨⟨v, n.row hf (oc 212 (by omega)), mv.fr (by rw [e0]) (a 9 (by decide) (by decide) (by decide)) (a 10 (by decide) (by decide) (by decide)) (a 11 (by decide) (by decide) (by decide))⟩, hl, g.fr (by rw [e]) (fun c _ _ => oc c (by omega)) (by rw [e0]) (a 1 (by decide) (by decide) (by decide)) (a 2 (by decide) (by decide) (by decide)) (a 3 (by decide) (by decide) (by decide)) (a 4 (by decide) (by decide) (by decide)), w.fr (by rw [e]) (oc 220 (by omega)) (by rw [e0]) (a 5 (by decide) (by decide) (by decide)), m.fr (by rw [e]) (by rw [e]) (by rw [e]) (by rw [e0]) (by rw [e0]) (by rw [e0])⟩
theorem m_row {X : ZS} {σ α : ZM} {T : Int → ZM → Prop} {k w n : Int} (hk : r32 k) (hw : r32 w) (hn : r32 n) (ms : MS σ α) (ok : Ok α) (h : ∀ σ', Ou 211 229 σ σ' → MS σ' (s_row α k w n) → T (o_row k w n) σ') : ZC X (rX12_row zN) mX12_row [(2, 211), (0, k), (0, w), (0, n)] zN σ (zQi T) := by
  have hf := ms.fix
  have bad : o_row k w n ≠ 0 → T (o_row k w n) σ := fun q => h σ Ou.rfl' (by unfold s_row; rw [if_neg q]; exact ms)
  have no2 : (¬ (0 ≤ k ∧ k < 8) ∨ w < 0 ∨ 3 < w ∨ 60 < n) → T (-2) σ := fun q => by
    have e : o_row k w n = -2 := by unfold o_row; rw [if_pos q]
    rw [e] at bad; exact bad (by decide)
  refine bk_X12_row (m_isSlot hk (fun k0 k8 => ⟨fun q => (by cases q), fun _ => ⟨hw, fun q => no2 (by omega), fun q1 => ⟨fun q => no2 (by omega), fun q2 => ⟨hn, fun q3 => ⟨fun q4 => ⟨hf, k0, k8, ?_⟩, fun q4 => ?_⟩, fun q => no2 (by omega)⟩⟩⟩⟩) (fun q => ⟨fun _ => no2 (Or.inl q), fun q => (by cases q)⟩))
  · have eo : o_row k w n = 0 := by unfold o_row; rw [if_neg (by omega), if_neg (by omega)]
    unfold s_row at h
    rw [eo, if_pos rfl] at h
    obtain ⟨σ0, hσ0⟩ : ∃ σ0 : ZM, σ0 = z_up (z_up σ 213 k (n + 1)) 214 k w := ⟨_, rfl⟩
    rw [← hσ0]
    have f0 : Fix σ0 := by rw [hσ0]; exact (hf.upA la_213 (by decide)).upA la_214 (by decide)
    have o0 : Ou 213 215 σ σ0 := by rw [hσ0]; exact (Ou.rfl'.up (by decide) (by decide)).up (by decide) (by decide)
    have e4 : σ0 214 = fu (σ 214) k w := by rw [hσ0, z_up_row, z_up_far _ _ _ (by decide)]
    have e5 : σ0 213 = fu (σ 213) k (n + 1) := by rw [hσ0, z_up_far _ _ _ (by decide), z_up_row]
    have e3 : σ0 215 = σ 215 := by rw [hσ0, z_up_far _ _ _ (by decide), z_up_far _ _ _ (by decide)]
    have loop : ∀ (l : Nat) (i : Int) (τ : ZM), 0 ≤ i → i + l = n → Fix τ → Ou 213 215 σ τ → τ 213 = σ0 213 → τ 214 = σ0 214 → (∀ t : Int, τ 215 t = if 60 * k ≤ t ∧ t < 60 * k + i then 0 else σ 215 t) → Z X (rX12_row zN) mX12_row 51 [(2, 211), (0, k), (9, 0), (0, n), (0, i)] [] zN τ (zQi T) := by
      intro l
      induction l with
      | zero =>
        intro i τ i0 hi f o t5 t4 t3
        have : i = n := by omega
        subst this
        refine bk_X12_row_51 ⟨hn, hn, fun _ => h τ (o.mono (by decide) (by decide)) (ms.slots o f (fun c c6 c7 c8 => ?_) ?_), fun q => absurd (Int.le_refl _) q⟩
        · rw [rp_n _ _ c8, rp_n _ _ c7, rp_n _ _ c6]
        · intro j j0 j8
          show τ 213 j = fu (α 6) k (i + 1) j ∧ (fu (α 6) k (i + 1) j ≠ 0 → τ 214 j = fu (α 7) k w j ∧ ∀ i' : Int, 0 ≤ i' → i' < fu (α 6) k (i + 1) j - 1 → τ 215 (60 * j + i') = if 60 * k ≤ 60 * j + i' ∧ 60 * j + i' < 60 * k + i then 0 else α 8 (60 * j + i'))
          have lj := ms.2.1 j j0 j8
          rw [t5, t4, e5, e4]
          by_cases q : j = k
          · subst q
            rw [fu_s, fu_s, fu_s, fu_s]
            refine ⟨by omega, fun _ => ⟨rfl, fun i' a1 a2 => ?_⟩⟩
            rw [t3, if_pos (by omega), if_pos (by omega)]
          · rw [fu_n _ _ q, fu_n _ _ q, fu_n _ _ q, fu_n _ _ q]
            refine ⟨lj.1, fun z => ⟨(lj.2 z).1, fun i' a1 a2 => ?_⟩⟩
            have := (ok.e j j0 j8).1
            rw [t3, if_neg (by omega), if_neg (by omega)]
            exact (lj.2 z).2 i' a1 a2
      | succ l ih =>
        intro i τ i0 hi f o t5 t4 t3
        refine bk_X12_row_51 ⟨by constructor <;> omega, hn, fun q => absurd q (by omega), fun q => ⟨f, by omega, by omega, ?_⟩⟩
        refine ih (i + 1) _ (by omega) (by omega) (f.upA la_215 (by decide)) (o.up (by decide) (by decide)) (by rw [z_up_far _ _ _ (by decide), t5]) (by rw [z_up_far _ _ _ (by decide), t4]) (fun t => ?_)
        rw [z_up_row]
        by_cases q3 : t = 60 * k + i
        · subst q3; rw [fu_s, if_pos (by omega)]
        · rw [fu_n _ _ q3, t3]
          by_cases q4 : 60 * k ≤ t ∧ t < 60 * k + i
          · rw [if_pos q4, if_pos (by omega)]
          · rw [if_neg q4, if_neg (by omega)]
    exact loop n.toNat 0 σ0 (by omega) (by omega) f0 o0 rfl rfl (fun t => by rw [e3, if_neg (by omega)])
  · have e : o_row k w n = -3 := by unfold o_row; rw [if_neg (by omega), if_pos (by omega)]
    rw [e] at bad; exact bad (by decide)
theorem m_tear {X : ZS} {σ α : ZM} {T : Bool → ZM → Prop} {k : Int} (hk : r32 k) (ms : MS σ α) (ok : Ok α) (h : ∀ σ', Ou 211 229 σ σ' → MS σ' (s_tear α k) → T (o_tear α k) σ') : ZC X (rX12_tear zN) mX12_tear [(2, 211), (0, k)] zN σ (zQz T) := by
  have hf := ms.fix
  have no : ¬ (0 ≤ k ∧ k < 8 ∧ α 6 k ≠ 0) → T false σ := fun q => by
    have e : o_tear α k = false := decide_eq_false q
    unfold s_tear at h
    rw [e, if_neg (by decide)] at h
    exact h σ Ou.rfl' ms
  refine bk_X12_tear (m_isSlot hk (fun k0 k8 => ⟨fun q => (by cases q), fun _ => ⟨hf, k0, k8, ?_, fun ke => ?_, fun q => no (fun w => w.2.2 ?_)⟩⟩) (fun q => ⟨fun _ => no (fun w => q ⟨w.1, w.2.1⟩), fun q => (by cases q)⟩))
  · rw [(ms.2.1 k k0 k8).1]; have := (ok.e k k0 k8).1; constructor <;> omega
  · rw [(ms.2.1 k k0 k8).1] at ke
    have e : o_tear α k = true := decide_eq_true ⟨k0, k8, ke⟩
    unfold s_tear at h
    rw [e, if_pos rfl] at h
    have o : Ou 213 215 σ (z_up σ 213 k 0) := Ou.rfl'.up (by decide) (by decide)
    refine h _ (o.mono (by decide) (by decide)) (ms.slots o (hf.upA la_213 (by decide)) (fun c c6 _ _ => rp_n _ _ c6) (fun j j0 j8 => ?_))
    have lj := ms.2.1 j j0 j8
    rw [z_up_row, z_up_far _ _ _ (by decide), z_up_far _ _ _ (by decide)]
    show fu (σ 213) k 0 j = fu (α 6) k 0 j ∧ (fu (α 6) k 0 j ≠ 0 → σ 214 j = α 7 j ∧ ∀ i' : Int, 0 ≤ i' → i' < fu (α 6) k 0 j - 1 → σ 215 (60 * j + i') = α 8 (60 * j + i'))
    by_cases q : j = k
    · subst q
      rw [fu_s, fu_s]
      exact ⟨rfl, fun z => absurd rfl z⟩
    · rw [fu_n _ _ q, fu_n _ _ q]; exact lj
  · rw [← (ms.2.1 k k0 k8).1]; exact q
theorem m_write {X : ZS} {σ α : ZM} {T : Int → ZM → Prop} {k i v : Int} (hk : r32 k) (hi : r32 i) (ms : MS σ α) (ok : Ok α) (h : ∀ σ', Ou 211 229 σ σ' → MS σ' (s_write α k i v) → T (o_write α k i) σ') : ZC X (rX12_write zN) mX12_write [(2, 211), (0, k), (0, i), (1, v)] zN σ (zQi T) := by
  have hf := ms.fix
  have bad : ∀ x, o_write α k i = x → x ≠ 0 → T x σ := fun x e q => by
    unfold s_write at h; rw [e, if_neg q] at h; exact h σ Ou.rfl' ms
  refine bk2_X12_write (m_isSlot hk (fun k0 k8 => ⟨fun _ => ⟨hf, k0, k8, ?_⟩, fun q => (by cases q)⟩) (fun q => ⟨fun q => (by cases q), fun _ => bad (-2) (by unfold o_write; rw [if_pos q]) (by decide)⟩))
  have k08 : ¬ ¬ (0 ≤ k ∧ k < 8) := fun q => q ⟨k0, k8⟩
  have lk := ms.2.1 k k0 k8
  have ek := ok.e k k0 k8
  rw [lk.1]
  have no6 : α 6 k ≠ 0 → ¬ (0 ≤ i ∧ i < α 6 k - 1) → T (-6) σ := fun ke q => bad (-6) (by unfold o_write; rw [if_neg k08, if_neg ke, if_neg q]) (by decide)
  have yes : α 6 k ≠ 0 → (0 ≤ i ∧ i < α 6 k - 1) → ∀ x, x = cutv (α 7 k) v → T 0 (z_up σ 215 (60 * k + i) x) := fun ke ii x hx => by
    have eo : o_write α k i = 0 := by unfold o_write; rw [if_neg k08, if_neg ke, if_pos ii]
    unfold s_write at h
    rw [eo, if_pos rfl, ← hx] at h
    have o : Ou 213 215 σ (z_up σ 215 (60 * k + i) x) := Ou.rfl'.up (by decide) (by decide)
    refine h _ (o.mono (by decide) (by decide)) (ms.slots o (hf.upA la_215 (by decide)) (fun c _ _ c8 => rp_n _ _ c8) (fun j j0 j8 => ?_))
    have lj := ms.2.1 j j0 j8
    rw [z_up_row, z_up_far _ _ _ (by decide), z_up_far _ _ _ (by decide)]
    refine ⟨lj.1, fun z => ⟨(lj.2 z).1, fun i' a1 a2 => ?_⟩⟩
    show fu (σ 215) (60 * k + i) x (60 * j + i') = fu (α 8) (60 * k + i) x (60 * j + i')
    by_cases q : 60 * j + i' = 60 * k + i
    · rw [q, fu_s, fu_s]
    · rw [fu_n _ _ q, fu_n _ _ q]; exact (lj.2 z).2 i' a1 a2
  refine ⟨by constructor <;> omega, fun ke => ⟨hi, fun q => no6 ke (by omega), fun q => ⟨by constructor <;> omega, fun q2 => ?_, fun q2 => no6 ke (by omega)⟩⟩, fun q => bad (-5) (by unfold o_write; rw [if_neg k08, if_pos q]) (by decide)⟩
  have wr := (ek.2 ke).1
  have ii : 0 ≤ i ∧ i < α 6 k - 1 := by omega
  rw [(lk.2 ke).1]
  refine ⟨by constructor <;> omega, fun w0 => ⟨fun w1 => ⟨fun w2 => ⟨by omega, by omega, yes ke ii _ ?_⟩, fun w2 => ⟨bm_r (m := 4294967296) (by omega), by omega, by omega, yes ke ii _ ?_⟩⟩, fun w1 => ⟨bm_r (m := 65536) (by omega), by omega, by omega, yes ke ii _ ?_⟩⟩, fun w0 => ⟨bm_r (m := 256) (by omega), by omega, by omega, yes ke ii _ ?_⟩⟩
  · unfold cutv; rw [if_neg w0, if_neg w1, if_neg w2]
  · unfold cutv; rw [if_neg w0, if_neg w1, if_pos w2]
  · unfold cutv; rw [if_neg w0, if_pos w1]
  · unfold cutv; rw [if_pos w0]
