theorem m_table {X : ZS} {σ α : ZM} {T : Int → ZM → Prop} {k : Int} (hk : r32 k) (ms : MS σ α) (ok : Ok α) (h : ∀ σ', Ou 211 229 σ σ' → MS σ' (s_table α k) → T (o_table α k) σ') : ZC X (rX12_table zN) mX12_table [(2, 211), (0, k)] zN σ (zQi T) := by
  have hf := ms.fix
  have hl := ok.l
  have mw := ms.2.2.2.1
  have ml := ms.2.1
  have bad : ∀ σ', Fix σ' → (∀ c : Int, c ≠ 225 → σ' c = σ c) → ∀ e, o_table α k = e → e < 0 → T e σ' := fun σ' f o e he q => by
    unfold s_table at h; rw [he, if_neg (by omega)] at h
    refine h σ' (fun c hc => o c (by omega)) ?_
    obtain ⟨⟨v, n, mv⟩, l, g, w, m⟩ := ms
    exact ⟨⟨v, n.row f (o 212 (by decide)), mv⟩, l.fr (o 213 (by decide)) (o 214 (by decide)) (o 215 (by decide)) rfl rfl rfl, g.fr (by rw [o 211 (by decide)]) (fun c _ _ => o c (by omega)) rfl rfl rfl rfl rfl, w.fr (by rw [o 211 (by decide)]) (o 220 (by decide)) rfl rfl, m.fr (by rw [o 211 (by decide)]) (by rw [o 211 (by decide)]) (by rw [o 211 (by decide)]) rfl rfl rfl⟩
  have bad0 : ∀ e, o_table α k = e → e < 0 → T e σ := fun e he q => bad σ hf (fun _ _ => rfl) e he q
  refine bk_X12_table (m_isSlot hk (fun k0 k8 => ⟨fun _ => ⟨by rw [mw.1]; constructor <;> omega, fun q6 => ⟨hf, k0, k8, ?_⟩, fun q6 => bad0 (-8) (by unfold o_table; rw [if_neg (fun q => q ⟨k0, k8⟩), if_pos (by rw [← mw.1]; exact q6)]) (by decide)⟩, fun q => (by cases q)⟩) (fun q => ⟨fun q => (by cases q), fun _ => bad0 (-2) (by unfold o_table; rw [if_pos q]) (by decide)⟩))
  have k08 : ¬ ¬ (0 ≤ k ∧ k < 8) := fun q => q ⟨k0, k8⟩
  have l6 : α 0 1 < 6 := by have := mw.1; omega
  have ek := ok.e k k0 k8
  have lk := ml k k0 k8
  rw [lk.1]
  refine ⟨by constructor <;> omega, fun ke => ?_, fun ke => bad0 (-5) (by unfold o_table; rw [if_neg k08, if_neg (by omega), if_pos ke]) (by decide)⟩
  have no : ∀ (τ : ZM) (e : Int), Fix τ → (∀ c : Int, c ≠ 225 → τ c = σ c) → rdT α k = e → e < 0 → T e τ := fun τ e f o he q => bad τ f o e (by unfold o_table; rw [if_neg k08, if_neg (by omega), if_neg ke, if_pos (by omega), he]) q
  have loop2 : rdT α k = 0 → ∀ (l : Nat) (w : Int) (τ : ZM), 0 ≤ w → w + l = 81 → Fix τ → (∀ c : Int, c ≠ 220 → c ≠ 225 → τ c = σ c) → (∀ t : Int, t < 81 * α 0 1 → τ 220 t = σ 220 t) → (∀ v : Int, 0 ≤ v → v < w → τ 220 (81 * α 0 1 + v) = tbl α k v) → (∀ i : Int, 0 ≤ i → i ≤ α 8 (60 * k + 0) → τ 225 i = α 8 (60 * k + i)) → Z X (rX12_table zN) mX12_table 140 [(2, 211), (9, 0), (9, 0), (9, 0), (0, w), (9, 0), (9, 0)] [] zN τ (zQi T) := by
    intro z l
    have eo : o_table α k = α 0 1 := by unfold o_table; rw [if_neg k08, if_neg (by omega), if_neg ke, if_neg (by omega)]
    have rd := rdT_ok (α := α) (k := k) (by omega)
    unfold s_table at h
    rw [eo, if_pos hl.1] at h
    induction l with
    | zero =>
      intro w τ w0 hw f o o7 v7 _
      have : w = 81 := by omega
      subst this
      have t9 : τ 211 9 = α 0 1 := by rw [o 211 (by decide) (by decide), mw.1]
      refine bk_X12_table_140 ⟨by decide, fun _ => ?_, fun q => absurd (by decide) q⟩
      rw [t9, show α 0 1 + 1 - 1 = α 0 1 by omega]
      refine h _ (fun c hc => by rw [z_up_far _ _ _ (by omega)]; exact o c (by omega) (by omega)) (ms.law (f.upF la_211 9 (by decide +kernel)) (fun c c1 c2 c3 => by rw [z_up_far _ _ _ c1]; exact o c c2 c3) (fun i i9 => by rw [z_up_ne _ (Or.inr i9), o 211 (by decide) (by decide)]) (z_up_same _ _ _ _) (fun l w l0 l1 w0 w1 => ?_) (fun w w0 w1 => ?_))
      · rw [z_up_far _ _ _ (by decide)]; exact o7 _ (by omega)
      · rw [z_up_far _ _ _ (by decide)]; exact v7 w w0 (by omega)
    | succ l ih =>
      intro w τ w0 hw f o o7 v7 t5
      have t9 : τ 211 9 = α 0 1 := by rw [o 211 (by decide) (by decide), mw.1]
      have c0 := t5 0 (Int.le_refl _) (by omega)
      have nx : ∀ x, x = tbl α k w → Z X (rX12_table zN) mX12_table 140 [(2, 211), (9, 0), (9, 0), (9, 0), (0, (w + 1)), (9, 0), (9, 0)] [] zN (z_up τ 220 (81 * α 0 1 + w) x) (zQi T) := fun x hx => by
        refine ih (w + 1) _ (by omega) (by omega) (f.upA la_220 (by decide)) (fun c c2 c7 => by rw [z_up_far _ _ _ c2]; exact o c c2 c7) (fun t ht => ?_) (fun v v0 v1 => ?_) (fun i i0 i1 => by rw [z_up_far _ _ _ (by decide)]; exact t5 i i0 i1)
        · rw [z_up_row, fu_n _ _ (by omega)]; exact o7 t ht
        · rw [z_up_row]
          by_cases q : v = w
          · subst q; rw [fu_s, hx]
          · rw [fu_n _ _ (by omega)]; exact v7 v v0 (by omega)
      refine bk_X12_table_140 ⟨by constructor <;> omega, fun q => absurd q (by omega), fun _ => ⟨f, fun q => ?_, fun q => ?_⟩⟩
      · rw [c0, t9]
        refine ⟨by constructor <;> omega, fun q2 => ⟨by omega, by omega, by omega, by omega, nx _ ?_⟩, fun q2 => ⟨by omega, by omega, by omega, by omega, nx _ ?_⟩⟩
        · rw [t5 _ (by omega) (Int.le_refl _)]
          unfold tbl
          rw [if_neg q, show min w (α 8 (60 * k + 0)) = α 8 (60 * k + 0) by omega]
        · rw [t5 _ (by omega) (by omega)]
          unfold tbl
          rw [if_neg q, show min w (α 8 (60 * k + 0)) = w by omega]
      · rw [t9]
        exact ⟨by omega, by omega, nx 0 (by unfold tbl; rw [if_pos q])⟩
  have loop : ∀ (m : Nat), α 8 (60 * k + 0) = m → 1 ≤ m → m ≤ 40 → ∀ (l : Nat) (t : Int) (τ : ZM), 1 ≤ t → t + l = m + 1 → Fix τ → (∀ c : Int, c ≠ 225 → τ c = σ c) → (∀ i : Int, 0 ≤ i → i < t → τ 225 i = α 8 (60 * k + i)) → rdT α k = chk (α 6 k - 1) (fun i => decide (0 ≤ α 8 (60 * k + i) ∧ α 8 (60 * k + i) ≤ 8000)) t l → Z X (rX12_table zN) mX12_table 48 [(2, 211), (0, k), (0, α 6 k - 1), (0, 1 + (m : Int)), (0, t), (9, 0), (9, 0)] [] zN τ (zQi T) := by
    intro m hm m1 m40 l
    induction l with
    | zero =>
      intro t τ t0 ht f o v ec
      refine bk_X12_table_48 ⟨by constructor <;> omega, by constructor <;> omega, fun _ => ?_, fun q => absurd (by omega) q⟩
      exact loop2 ec 81 0 τ (Int.le_refl _) (by decide) f (fun c _ c2 => o c c2) (fun _ _ => by rw [o 220 (by decide)]) (fun v v0 v1 => by omega) (fun i i0 i1 => v i i0 (by omega))
    | succ l ih =>
      intro t τ t0 ht f o v ec
      have ec : rdT α k = if α 6 k - 1 ≤ t then -6 else if decide (0 ≤ α 8 (60 * k + t) ∧ α 8 (60 * k + t) ≤ 8000) then chk (α 6 k - 1) (fun i => decide (0 ≤ α 8 (60 * k + i) ∧ α 8 (60 * k + i) ≤ 8000)) (t + 1) l else -4 := ec
      refine bk_X12_table_48 ⟨by constructor <;> omega, by constructor <;> omega, fun q => absurd q (by omega), fun _ => ⟨by constructor <;> omega, fun t1 => ⟨f, by omega, by omega, fun _ => ?_, fun q => absurd q (by omega)⟩, fun t1 => no τ (-6) f o (by rw [ec, if_pos (by omega)]) (by decide)⟩⟩
      rw [o 215 (by decide), (lk.2 ke).2 t (by omega) t1]
      refine m_isIn ((ek.2 ke).2 t (by omega) t1) (by decide) (by decide) (fun v1 v2 => ⟨fun _ => ⟨f, by omega, by omega, ?_⟩, fun q => (by cases q)⟩) (fun q => ⟨fun q => (by cases q), fun _ => no τ (-4) f o (by rw [ec, if_neg (by omega), decide_eq_false q]; rfl) (by decide)⟩)
      rw [z_up_ne _ (Or.inr (by omega)), v 0 (Int.le_refl _) (by omega), hm]
      refine ih (t + 1) _ (by omega) (by omega) (f.upA la_225 (by decide)) (fun c hc => by rw [z_up_far _ _ _ hc]; exact o c hc) (fun i i0 i1 => ?_) (by rw [ec, if_neg (by omega), if_pos (decide_eq_true ⟨v1, v2⟩)])
      rw [z_up_row]
      by_cases q : i = t
      · subst q; rw [fu_s]
      · rw [fu_n _ _ q]; exact v i i0 (by omega)
  refine bk_X12_table_48 ⟨by decide, by decide, fun q => absurd q (by decide), fun _ => ⟨by constructor <;> omega, fun t1 => ⟨hf, by omega, by omega, fun q => absurd rfl q, fun _ => ?_⟩, fun t1 => no σ (-6) hf (fun _ _ => rfl) (by unfold rdT; rw [if_pos (by omega)]) (by decide)⟩⟩
  rw [(lk.2 ke).2 0 (by omega) t1]
  refine m_isIn ((ek.2 ke).2 0 (by omega) t1) (by decide) (by decide) (fun v1 v2 => ⟨fun _ => ⟨hf, by omega, by omega, ?_⟩, fun q => (by cases q)⟩) (fun q => ⟨fun q => (by cases q), fun _ => no σ (-4) hf (fun _ _ => rfl) (by unfold rdT; rw [if_neg (by omega), if_neg q]) (by decide)⟩)
  rw [z_up_same]
  obtain ⟨m, hm⟩ : ∃ m : Nat, α 8 (60 * k + 0) = m := ⟨(α 8 (60 * k + 0)).toNat, by omega⟩
  have e0 : rdT α k = chk (α 6 k - 1) (fun i => decide (0 ≤ α 8 (60 * k + i) ∧ α 8 (60 * k + i) ≤ 8000)) 1 m := by
    unfold rdT; rw [if_neg (by omega), if_pos ⟨v1, v2⟩, hm]; rfl
  have L := loop m hm (by omega) (by omega) m (0 + 1) (z_up σ 225 0 (α 8 (60 * k + 0))) (by omega) (by omega) (hf.upA la_225 (by decide)) (fun c hc => z_up_far _ _ _ hc) (fun i i0 i1 => by
    have : i = 0 := by omega
    subst this
    rw [z_up_same]) e0
  rw [hm] at L ⊢
  exact L
