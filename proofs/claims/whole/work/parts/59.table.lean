/-- numbers are read one after the other -/
def chk (n : Int) (g : Int → Bool) : Int → Nat → Int
  | _, 0 => 0
  | i, l + 1 => if n ≤ i then -6 else if g i then chk n g (i + 1) l else -4
theorem chk_le {n : Int} {g : Int → Bool} : ∀ {l : Nat} {i : Int}, chk n g i l = 0 ∨ chk n g i l = -4 ∨ chk n g i l = -6
  | 0, _ => Or.inl rfl
  | l + 1, i => by
    show (if n ≤ i then -6 else if g i then chk n g (i + 1) l else -4) = 0 ∨ (if n ≤ i then -6 else if g i then chk n g (i + 1) l else -4) = -4 ∨ (if n ≤ i then -6 else if g i then chk n g (i + 1) l else -4) = -6
    split
    · exact Or.inr (Or.inr rfl)
    · split
      · exact chk_le
      · exact Or.inr (Or.inl rfl)
theorem chk_ok {n : Int} {g : Int → Bool} : ∀ {l : Nat} {i : Int}, chk n g i l = 0 → ∀ j : Int, i ≤ j → j < i + l → j < n ∧ g j = true
  | 0, i, _, j, h1, h2 => by omega
  | l + 1, i, h, j, h1, h2 => by
    have h : (if n ≤ i then -6 else if g i then chk n g (i + 1) l else -4) = (0 : Int) := h
    split at h
    · cases h
    · split at h
      · by_cases q : j = i
        · subst q; exact ⟨by omega, by assumption⟩
        · exact chk_ok h j (by omega) (by omega)
      · cases h
theorem CS.tmp {σ σ' α : ZM} (h : CS σ α) (b : CB σ') (o : ∀ c : Int, c = 1 ∨ (3 ≤ c ∧ c ≤ 7) ∨ (141 ≤ c ∧ c ≤ 168) ∨ (180 ≤ c ∧ c ≤ 183) ∨ (σ 1 11 + 1 ≤ c ∧ c ≤ σ 1 11 + 5) → σ' c = σ c) : CS σ' α := by
  obtain ⟨_, l, g, w, m, a, r⟩ := h
  have e1 := o 1 (by omega)
  exact ⟨b, l.fr (o 3 (by omega)) (o 4 (by omega)) (o 5 (by omega)) rfl rfl rfl, g.fr (by rw [e1]) (by rw [e1]) (fun c h1 h2 => o c (Or.inr (Or.inr (Or.inr (Or.inr ⟨h1, h2⟩))))) rfl rfl rfl rfl rfl, w.fr (by rw [o 6 (by omega)]) (o 7 (by omega)) rfl rfl, m.fr (by rw [e1]) (by rw [e1]) (by rw [o 141 (by omega)]) rfl rfl rfl, a.fr (fun c _ _ => o c (by omega)) rfl rfl rfl, r.fr (fun c _ _ => o c (by omega)) rfl⟩
theorem c_readNext {X : ZS} {σ α : ZM} {T : Bool → ZM → Prop} {lo hi t k : Int} (hf : Fix σ) (cl : CL σ α) (ok : Ok α) (k0 : 0 ≤ k) (k8 : k < 8) (ke : α 6 k ≠ 0) (h3 : σ 2 3 = k) (h4 : σ 2 4 = t) (t0 : 0 ≤ t) (tr : r32 t) (rlo : r32 lo) (rhi : r32 hi)
    (h1 : t < α 6 k - 1 → lo ≤ α 8 (60 * k + t) → α 8 (60 * k + t) ≤ hi → T true (z_up (z_up σ 2 5 (α 8 (60 * k + t))) 2 4 (t + 1)))
    (h6 : α 6 k - 1 ≤ t → T false (z_up σ 2 8 (-6))) (h5 : t < α 6 k - 1 → ¬ (lo ≤ α 8 (60 * k + t) ∧ α 8 (60 * k + t) ≤ hi) → T false (z_up σ 2 8 (-4))) :
    ZC X (rX8_readNext zN) mX8_readNext [(2, 2), (0, lo), (0, hi)] zN σ (zQz T) := by
  refine bk_X8_readNext ?_
  rw [h3, h4]
  have lk := cl k k0 k8
  have ek := ok.e k k0 k8
  refine c_holdsNumber (by constructor <;> omega) tr hf cl ok (fun _ _ _ _ t1 => ⟨fun _ => ?_, fun q => (by cases q)⟩) (fun q => ⟨fun q => (by cases q), fun _ => h6 (by omega)⟩)
  rw [h3, h4, (lk.2 ke).2 t t0 t1]
  have rv := (ek.2 ke).2 t t0 t1
  exact ⟨hf, by omega, by omega, rlo, rv, r64_of32 rlo, fun q => h5 t1 (by omega), fun q => ⟨rhi, r64_of32 rhi, fun q2 => h1 t1 (by omega) q2, fun q2 => h5 t1 (by omega)⟩⟩
def rdT (α : ZM) (k : Int) : Int := if α 6 k - 1 ≤ 0 then -6 else if 1 ≤ α 8 (60 * k + 0) ∧ α 8 (60 * k + 0) ≤ 40 then chk (α 6 k - 1) (fun i => decide (0 ≤ α 8 (60 * k + i) ∧ α 8 (60 * k + i) ≤ 8000)) 1 (α 8 (60 * k + 0)).toNat else -4
def o_table (α : ZM) (k : Int) : Int := if ¬ (0 ≤ k ∧ k < 8) then -2 else if α 0 1 = 6 then -8 else if α 6 k = 0 then -5 else if rdT α k < 0 then rdT α k else α 0 1
def tbl (α : ZM) (k : Int) : Int → Int := fun w => if w = 0 then 0 else α 8 (60 * k + min w (α 8 (60 * k + 0)))
def s_table (α : ZM) (k : Int) : ZM := if 0 ≤ o_table α k then lw_add α (tbl α k) else α
theorem rdT_ok {α : ZM} {k : Int} (h : ¬ rdT α k < 0) : (1 ≤ α 8 (60 * k + 0) ∧ α 8 (60 * k + 0) ≤ 40) ∧ ∀ j : Int, 1 ≤ j → j ≤ α 8 (60 * k + 0) → 0 ≤ α 8 (60 * k + j) ∧ α 8 (60 * k + j) ≤ 8000 := by
  unfold rdT at h
  split at h
  · omega
  · split at h
    · rename_i q
      refine ⟨q, fun j j1 j2 => ?_⟩
      have z : chk (α 6 k - 1) (fun i => decide (0 ≤ α 8 (60 * k + i) ∧ α 8 (60 * k + i) ≤ 8000)) 1 (α 8 (60 * k + 0)).toNat = 0 := by
        rcases chk_le (n := α 6 k - 1) (g := fun i => decide (0 ≤ α 8 (60 * k + i) ∧ α 8 (60 * k + i) ≤ 8000)) (l := (α 8 (60 * k + 0)).toNat) (i := 1) with e | e | e
        · exact e
        · omega
        · omega
      exact of_decide_eq_true (chk_ok z j j1 (by omega)).2
    · omega
theorem ok_table {α : ZM} {k : Int} (ok : Ok α) : Ok (s_table α k) := by
  unfold s_table
  split
  · rename_i h
    unfold o_table at h
    have hl := ok.l
    split at h
    · omega
    · split at h
      · omega
      · split at h
        · omega
        · split at h
          · omega
          · rename_i q
            have r := rdT_ok q
            refine ok_add ok (by omega) (fun w w0 w1 => ?_)
            unfold tbl
            by_cases e : w = 0
            · rw [if_pos e]; omega
            · rw [if_neg e]
              have := r.2 (min w (α 8 (60 * k + 0))) (by omega) (by omega)
              exact ⟨by omega, fun q => absurd q e⟩
  · exact ok
theorem b_table {X : ZS} {σ α : ZM} {T : Int → ZM → Prop} {k : Int} (hk : r32 k) (cs : CS σ α) (ok : Ok α) (h : ∀ σ', Ou 1 210 σ σ' → CS σ' (s_table α k) → T (o_table α k) σ') : ZC X (rX11_table zN) mX11_table [(2, 1), (0, k)] zN σ (zQi T) := by
  have hf := cs.fix
  have hl := ok.l
  have cw := cs.2.2.2.1
  have cl := cs.2.1
  have bad : ∀ σ', Ou 1 210 σ σ' → CS σ' α → ∀ e, o_table α k = e → e < 0 → T e σ' := fun σ' o c e he q => by
    unfold s_table at h; rw [he, if_neg (by omega)] at h; exact h σ' o c
  refine bk_X11_table ⟨hf, c_exists hk (fun k0 k8 => ⟨fun _ => ⟨hf, ?_⟩, fun q => (by cases q)⟩) (fun q => ⟨fun q => (by cases q), fun _ => bad σ Ou.rfl' cs (-2) (by unfold o_table; rw [if_pos q]) (by decide)⟩)⟩
  have k08 : ¬ ¬ (0 ≤ k ∧ k < 8) := fun q => q ⟨k0, k8⟩
  refine c_isFull cw.1 ok (fun l6 => ⟨fun q => (by cases q), fun _ => bad σ Ou.rfl' cs (-8) (by unfold o_table; rw [if_neg k08, if_pos l6]) (by decide)⟩) (fun l6 => ⟨fun _ => ⟨hf, ?_⟩, fun q => (by cases q)⟩)
  refine c_sholds hk hf cl ok (fun _ _ ke => ⟨fun _ => ⟨hf, bk_X8_startReading ?_⟩, fun q => (by cases q)⟩) (fun q => ⟨fun q => (by cases q), fun _ => bad σ Ou.rfl' cs (-5) (by unfold o_table; rw [if_neg k08, if_neg (by omega), if_pos (by apply Classical.byContradiction; intro w; exact q ⟨k0, k8, w⟩)]) (by decide)⟩)
  have ek := ok.e k k0 k8
  -- refusals
  have no : ∀ (τ : ZM) (e : Int), Fix τ → (∀ c : Int, c ≠ 2 → c ≠ 7 → τ c = σ c) → (∀ t : Int, t < α 0 1 * 81 → τ 7 t = σ 7 t) → rdT α k = e → e < 0 → (Fix (z_up τ 2 8 e)) ∧ T ((z_up τ 2 8 e) 2 8) (z_up τ 2 8 e) := fun τ e f o o7 he q => by
    have f8 : Fix (z_up τ 2 8 e) := f.upF la_2 8 (by decide +kernel)
    refine ⟨f8, ?_⟩
    rw [z_up_same]
    have oo : ∀ c : Int, c ≠ 2 → c ≠ 7 → (z_up τ 2 8 e) c = σ c := fun c c2 c7 => by rw [z_up_far _ _ _ c2]; exact o c c2 c7
    refine bad _ (fun c hc => oo c (by omega) (by omega)) ?_ e (by unfold o_table; rw [if_neg k08, if_neg (by omega), if_neg ke, if_pos (by omega), he]) q
    obtain ⟨c1, c2, c3, c4, c5, c6, c7⟩ := cs
    refine ⟨c1.fr f8 (fun c _ _ _ => oo c (by omega) (by omega)), c2.fr (oo 3 (by decide) (by decide)) (oo 4 (by decide) (by decide)) (oo 5 (by decide) (by decide)) rfl rfl rfl, c3.fr (by rw [oo 1 (by decide) (by decide)]) (by rw [oo 1 (by decide) (by decide)]) (fun c _ _ => oo c (by have := c3.1; omega) (by have := c3.1; omega)) rfl rfl rfl rfl rfl, ⟨by rw [oo 6 (by decide) (by decide)]; exact c4.1, fun l w l0 l1 w0 w1 => by rw [z_up_far _ _ _ (by decide), o7 _ (by omega)]; exact c4.2 l w l0 l1 w0 w1⟩, c5.fr (by rw [oo 1 (by decide) (by decide)]) (by rw [oo 1 (by decide) (by decide)]) (by rw [oo 141 (by decide) (by decide)]) rfl rfl rfl, c6.fr (fun c _ _ => oo c (by omega) (by omega)) rfl rfl rfl, c7.fr (fun c _ _ => oo c (by omega) (by omega)) rfl⟩
  obtain ⟨σ0, hσ0⟩ : ∃ σ0 : ZM, σ0 = z_up (z_up (z_up σ 2 3 k) 2 4 0) 2 8 0 := ⟨_, rfl⟩
  rw [← hσ0]
  have f0 : Fix σ0 := by rw [hσ0]; exact ((hf.upF la_2 3 (by decide +kernel)).upF la_2 4 (by decide +kernel)).upF la_2 8 (by decide +kernel)
  have o0 : ∀ c : Int, c ≠ 2 → σ0 c = σ c := fun c hc => by rw [hσ0, z_up_far _ _ _ hc, z_up_far _ _ _ hc, z_up_far _ _ _ hc]
  have r3 : σ0 2 3 = k := by rw [hσ0, z_up_ne _ (Or.inr (by decide)), z_up_ne _ (Or.inr (by decide)), z_up_same]
  have r4 : σ0 2 4 = 0 := by rw [hσ0, z_up_ne _ (Or.inr (by decide)), z_up_same]
  have cl0 : CL σ0 α := cl.fr (o0 3 (by decide)) (o0 4 (by decide)) (o0 5 (by decide)) rfl rfl rfl
  refine bk_X11_readTable ⟨f0, c_readNext f0 cl0 ok k0 k8 ke r3 r4 (Int.le_refl _) (by decide) (by decide) (by decide) (fun t1 v1 v2 => ⟨fun _ => ?_, fun q => (by cases q)⟩) (fun q => ⟨fun q => (by cases q), fun _ => ⟨fun _ => no σ0 (-6) f0 (fun c c2 _ => o0 c c2) (fun t _ => by rw [o0 7 (by decide)]) (by unfold rdT; rw [if_pos q]) (by decide), fun q => (by cases q)⟩⟩) (fun q1 q => ⟨fun q => (by cases q), fun _ => ⟨fun _ => no σ0 (-4) f0 (fun c c2 _ => o0 c c2) (fun t _ => by rw [o0 7 (by decide)]) (by unfold rdT; rw [if_neg (by omega), if_neg q]) (by decide), fun q => (by cases q)⟩⟩)⟩
  obtain ⟨m, hm⟩ : ∃ m : Nat, α 8 (60 * k + 0) = m := ⟨(α 8 (60 * k + 0)).toNat, by omega⟩
  have m40 : 1 ≤ m ∧ m ≤ 40 := by omega
  have e0 : rdT α k = chk (α 6 k - 1) (fun i => decide (0 ≤ α 8 (60 * k + i) ∧ α 8 (60 * k + i) ≤ 8000)) 1 m := by
    unfold rdT; rw [if_neg (by omega), if_pos ⟨v1, v2⟩, hm]; rfl
  rw [hm]
  obtain ⟨σ1, hσ1⟩ : ∃ σ1 : ZM, σ1 = z_up (z_up σ0 2 5 (m : Int)) 2 4 (0 + 1) := ⟨_, rfl⟩
  rw [← hσ1]
  have f1 : Fix σ1 := by rw [hσ1]; exact (f0.upF la_2 5 (by decide +kernel)).upF la_2 4 (by decide +kernel)
  have o1 : ∀ c : Int, c ≠ 2 → σ1 c = σ c := fun c hc => by rw [hσ1, z_up_far _ _ _ hc, z_up_far _ _ _ hc]; exact o0 c hc
  have s5 : σ1 2 5 = m := by rw [hσ1, z_up_ne _ (Or.inr (by decide)), z_up_same]
  have s4 : σ1 2 4 = 1 := by rw [hσ1, z_up_same]; rfl
  have s3 : σ1 2 3 = k := by rw [hσ1, z_up_ne _ (Or.inr (by decide)), z_up_ne _ (Or.inr (by decide))]; exact r3
  rw [s5]
  refine ⟨f1, ?_⟩
  -- the ways behind the last
  have loop2 : rdT α k = 0 → ∀ (l : Nat) (w : Int) (τ : ZM), (m : Int) < w → w + l = 81 → Fix τ → (∀ c : Int, c ≠ 2 → c ≠ 7 → τ c = σ c) → (∀ t : Int, t < α 0 1 * 81 → τ 7 t = σ 7 t) → (∀ v : Int, 1 ≤ v → v < w → τ 7 (α 0 1 * 81 + v) = tbl α k v) → τ 2 5 = α 8 (60 * k + m) → Z X (rX11_readTable zN) mX11_readTable 71 [(2, 1), (9, 0), (0, w)] [] zN τ (zQz (fun r13 σ14 => ((r13 = false) → (Fix σ14) ∧ T (σ14 2 8) σ14) ∧ ((r13 = true) → (Fix σ14) ∧ ZC X (rX5_keepDraft zN) mX5_keepDraft [(2, 6)] zN σ14 (zQi (fun r17 σ18 => T r17 σ18))))) := by
    intro z l
    have eo : o_table α k = α 0 1 := by unfold o_table; rw [if_neg k08, if_neg (by omega), if_neg ke, if_neg (by omega)]
    unfold s_table at h
    rw [eo, if_pos hl.1] at h
    induction l with
    | zero =>
      intro w τ w0 hw f o o7 v7 _
      have : w = 81 := by omega
      subst this
      have t6 : τ 6 1 = α 0 1 := by rw [o 6 (by decide) (by decide), cw.1]
      refine bk_X11_readTable_71 ⟨by decide, fun _ => ⟨fun q => (by cases q), fun _ => ⟨f, c_keep t6 ok l6 ?_⟩⟩, fun q => absurd (by decide) q⟩
      refine h _ (fun c hc => by rw [z_up_far _ _ _ (by omega)]; exact o c (by omega) (by omega)) (cs.law (f.upF la_6 1 (by decide +kernel)) (fun c c2 c6 c7 => by rw [z_up_far _ _ _ c6]; exact o c c2 c7) (z_up_same _ _ _ _) (fun l w l0 l1 w0 w1 => ?_) (fun w w0 w1 => ?_))
      · rw [z_up_far _ _ _ (by decide)]; exact o7 _ (by omega)
      · rw [z_up_far _ _ _ (by decide)]; exact v7 w w0 (by omega)
    | succ l ih =>
      intro w τ w0 hw f o o7 v7 t5
      have t6 : τ 6 1 = α 0 1 := by rw [o 6 (by decide) (by decide), cw.1]
      refine bk_X11_readTable_71 ⟨by constructor <;> omega, fun q => absurd q (by omega), fun _ => ⟨f, c_draft f t6 ok l6 (by omega) (by omega) ?_⟩⟩
      refine ih (w + 1) _ (by omega) (by omega) (f.upA la_7 (by decide)) (fun c c2 c7 => by rw [z_up_far _ _ _ c7]; exact o c c2 c7) (fun t ht => ?_) (fun v v0 v1 => ?_) (by rw [z_up_ne _ (Or.inl (by decide))]; exact t5)
      · rw [z_up_row, fu_n _ _ (by omega)]; exact o7 t ht
      · rw [z_up_row]
        by_cases q : v = w
        · subst q; rw [fu_s, t5]; unfold tbl; rw [if_neg (by omega), hm, show min v (m : Int) = m by omega]
        · rw [fu_n _ _ (by omega)]; exact v7 v v0 (by omega)
  have loop : ∀ (l : Nat) (w : Int) (τ : ZM), 1 ≤ w → w + l = m + 1 → Fix τ → (∀ c : Int, c ≠ 2 → c ≠ 7 → τ c = σ c) → (∀ t : Int, t < α 0 1 * 81 → τ 7 t = σ 7 t) → (∀ v : Int, 1 ≤ v → v < w → τ 7 (α 0 1 * 81 + v) = tbl α k v) → (1 < w → τ 2 5 = α 8 (60 * k + (w - 1))) → τ 2 3 = k → τ 2 4 = w → rdT α k = chk (α 6 k - 1) (fun i => decide (0 ≤ α 8 (60 * k + i) ∧ α 8 (60 * k + i) ≤ 8000)) w l → Z X (rX11_readTable zN) mX11_readTable 25 [(2, 1), (0, (m : Int)), (0, w)] [] zN τ (zQz (fun r13 σ14 => ((r13 = false) → (Fix σ14) ∧ T (σ14 2 8) σ14) ∧ ((r13 = true) → (Fix σ14) ∧ ZC X (rX5_keepDraft zN) mX5_keepDraft [(2, 6)] zN σ14 (zQi (fun r17 σ18 => T r17 σ18))))) := by
    intro l
    induction l with
    | zero =>
      intro w τ w0 hw f o o7 v7 t5 t3 t4 ec
      refine bk_X11_readTable_25 ⟨by constructor <;> omega, by constructor <;> omega, fun _ => ?_, fun q => absurd (by omega) q⟩
      have : w = m + 1 := by omega
      subst this
      refine loop2 ec (80 - m) (m + 1) τ (by omega) (by omega) f o o7 v7 ?_
      rw [t5 (by omega), show (m : Int) + 1 - 1 = m by omega]
    | succ l ih =>
      intro w τ w0 hw f o o7 v7 t5 t3 t4 ec
      have ec : rdT α k = if α 6 k - 1 ≤ w then -6 else if decide (0 ≤ α 8 (60 * k + w) ∧ α 8 (60 * k + w) ≤ 8000) then chk (α 6 k - 1) (fun i => decide (0 ≤ α 8 (60 * k + i) ∧ α 8 (60 * k + i) ≤ 8000)) (w + 1) l else -4 := ec
      have t6 : τ 6 1 = α 0 1 := by rw [o 6 (by decide) (by decide), cw.1]
      have clt : CL τ α := cl.fr (o 3 (by decide) (by decide)) (o 4 (by decide) (by decide)) (o 5 (by decide) (by decide)) rfl rfl rfl
      refine bk_X11_readTable_25 ⟨by constructor <;> omega, by constructor <;> omega, fun q => absurd q (by omega), fun _ => ⟨f, c_readNext f clt ok k0 k8 ke t3 t4 (by omega) (by constructor <;> omega) (by decide) (by decide) (fun t1 v1 v2 => ⟨fun _ => ?_, fun q => (by cases q)⟩) (fun q => ⟨fun q => (by cases q), fun _ => ⟨fun _ => no τ (-6) f o o7 (by rw [ec, if_pos q]) (by decide), fun q => (by cases q)⟩⟩) (fun q1 q => ⟨fun q => (by cases q), fun _ => ⟨fun _ => no τ (-4) f o o7 (by rw [ec, if_neg (by omega), decide_eq_false q]; rfl) (by decide), fun q => (by cases q)⟩⟩)⟩⟩
      obtain ⟨τ1, hτ1⟩ : ∃ τ1 : ZM, τ1 = z_up (z_up τ 2 5 (α 8 (60 * k + w))) 2 4 (w + 1) := ⟨_, rfl⟩
      rw [← hτ1]
      have g1 : Fix τ1 := by rw [hτ1]; exact (f.upF la_2 5 (by decide +kernel)).upF la_2 4 (by decide +kernel)
      have p1 : ∀ c : Int, c ≠ 2 → τ1 c = τ c := fun c hc => by rw [hτ1, z_up_far _ _ _ hc, z_up_far _ _ _ hc]
      have p5 : τ1 2 5 = α 8 (60 * k + w) := by rw [hτ1, z_up_ne _ (Or.inr (by decide)), z_up_same]
      have p4 : τ1 2 4 = w + 1 := by rw [hτ1, z_up_same]
      have p3 : τ1 2 3 = k := by rw [hτ1, z_up_ne _ (Or.inr (by decide)), z_up_ne _ (Or.inr (by decide))]; exact t3
      rw [p5]
      refine ⟨g1, c_draft g1 (by rw [p1 6 (by decide)]; exact t6) ok l6 w0 (by omega) ?_⟩
      refine ih (w + 1) _ (by omega) (by omega) (g1.upA la_7 (by decide)) (fun c c2 c7 => by rw [z_up_far _ _ _ c7, p1 c c2]; exact o c c2 c7) (fun t ht => ?_) (fun v v0 v1 => ?_) (fun _ => ?_) ?_ ?_ ?_
      · rw [z_up_row, fu_n _ _ (by omega), p1 7 (by decide)]; exact o7 t ht
      · rw [z_up_row]
        by_cases q : v = w
        · subst q; rw [fu_s]; unfold tbl; rw [if_neg (by omega), hm, show min v (m : Int) = v by omega]
        · rw [fu_n _ _ (by omega), p1 7 (by decide)]; exact v7 v v0 (by omega)
      · rw [z_up_ne _ (Or.inl (by decide)), p5, show w + 1 - 1 = w by omega]
      · rw [z_up_ne _ (Or.inl (by decide)), p3]
      · rw [z_up_ne _ (Or.inl (by decide)), p4]
      · rw [ec, if_neg (by omega), if_pos (decide_eq_true ⟨v1, v2⟩)]
  exact loop m 1 σ1 (Int.le_refl _) (by omega) f1 (fun c c2 _ => o1 c c2) (fun t _ => by rw [o1 7 (by decide)]) (fun v v0 v1 => by omega) (fun q => absurd q (by decide)) s3 s4 e0
