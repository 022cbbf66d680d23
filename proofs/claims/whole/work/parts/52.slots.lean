def rp (α : ZM) (c : Int) (f : Int → Int) : ZM := fun c' => if c' = c then f else α c'
theorem rp_s (α : ZM) (c : Int) (f : Int → Int) : rp α c f c = f := if_pos rfl
theorem rp_n (α : ZM) {c c' : Int} (f : Int → Int) (h : c' ≠ c) : rp α c f c' = α c' := if_neg h
theorem z_up_rp (α : ZM) (c i x : Int) : z_up α c i x = rp α c (fu (α c) i x) := by
  funext c' i'
  unfold z_up rp fu
  by_cases h : c' = c
  · subst h; rw [if_pos rfl]
    by_cases h2 : i' = i
    · rw [if_pos ⟨rfl, h2⟩, if_pos h2]
    · rw [if_neg (fun q => h2 q.2), if_neg h2]
  · rw [if_neg (fun q => h q.1), if_neg h]
theorem Ou.up {lo hi : Int} {σ σ' : ZM} (h : Ou lo hi σ σ') {c i x : Int} (h1 : lo ≤ c) (h2 : c ≤ hi) : Ou lo hi σ (z_up σ' c i x) := fun d hd => by
  rw [z_up_far _ _ _ (by omega)]; exact h d hd
theorem c_exists {X : ZS} {σ : ZM} {T : Bool → ZM → Prop} {k : Int} (hr : r32 k) (h1 : 0 ≤ k → k < 8 → T true σ) (h0 : ¬ (0 ≤ k ∧ k < 8) → T false σ) : ZC X (rX8_exists zN) mX8_exists [(2, 2), (0, k)] zN σ (zQz T) :=
  bk_X8_exists ⟨hr, fun q => h0 (by omega), fun q => ⟨fun q2 => h0 (by omega), fun q2 => h1 (by omega) (by omega)⟩⟩
theorem c_sholds {X : ZS} {σ α : ZM} {T : Bool → ZM → Prop} {k : Int} (hr : r32 k) (hf : Fix σ) (hl : CL σ α) (ok : Ok α) (h1 : 0 ≤ k → k < 8 → α 6 k ≠ 0 → T true σ) (h0 : ¬ (0 ≤ k ∧ k < 8 ∧ α 6 k ≠ 0) → T false σ) : ZC X (rX8_holds zN) mX8_holds [(2, 2), (0, k)] zN σ (zQz T) := by
  refine bk_X8_holds (c_exists hr (fun k0 k8 => ⟨fun q => (by cases q), fun _ => ?_⟩) (fun q => ⟨fun _ => h0 (fun w => q ⟨w.1, w.2.1⟩), fun q => (by cases q)⟩))
  have e := (hl k k0 k8).1
  have r := (ok.e k k0 k8).1
  refine ⟨hf, k0, k8, by rw [e]; constructor <;> omega, fun q => h0 (fun w => w.2.2 (by omega)), fun q => h1 k0 k8 (by omega)⟩
theorem c_holdsNumber {X : ZS} {σ α : ZM} {T : Bool → ZM → Prop} {k i : Int} (hr : r32 k) (hi : r32 i) (hf : Fix σ) (hl : CL σ α) (ok : Ok α) (h1 : 0 ≤ k → k < 8 → α 6 k ≠ 0 → 0 ≤ i → i < α 6 k - 1 → T true σ) (h0 : ¬ (0 ≤ k ∧ k < 8 ∧ α 6 k ≠ 0 ∧ 0 ≤ i ∧ i < α 6 k - 1) → T false σ) : ZC X (rX8_holdsNumber zN) mX8_holdsNumber [(2, 2), (0, k), (0, i)] zN σ (zQz T) := by
  refine bk_X8_holdsNumber (c_sholds hr hf hl ok (fun k0 k8 he => ⟨fun q => (by cases q), fun _ => ?_⟩) (fun q => ⟨fun _ => h0 (fun w => q ⟨w.1, w.2.1, w.2.2.1⟩), fun q => (by cases q)⟩))
  have e := (hl k k0 k8).1
  have r := (ok.e k k0 k8).1
  refine ⟨hi, fun q => h0 (by omega), fun q => ⟨hf, k0, k8, by rw [e]; constructor <;> omega, fun q2 => h0 (by omega), fun q2 => h1 k0 k8 he (by omega) (by omega)⟩⟩
/-! row, tear, write: what they answer and leave -/
def o_row (k w n : Int) : Int := if ¬ (0 ≤ k ∧ k < 8) ∨ w < 0 ∨ 3 < w ∨ 60 < n then -2 else if n < 0 then -3 else 0
def s_row (α : ZM) (k w n : Int) : ZM := if o_row k w n = 0 then rp (rp (rp α 6 (fu (α 6) k (n + 1))) 7 (fu (α 7) k w)) 8 (fun t => if 60 * k ≤ t ∧ t < 60 * k + n then 0 else α 8 t) else α
def o_tear (α : ZM) (k : Int) : Bool := decide (0 ≤ k ∧ k < 8 ∧ α 6 k ≠ 0)
def s_tear (α : ZM) (k : Int) : ZM := if o_tear α k then rp α 6 (fu (α 6) k 0) else α
def o_write (α : ZM) (k i : Int) : Int := if ¬ (0 ≤ k ∧ k < 8) then -2 else if α 6 k = 0 then -5 else if 0 ≤ i ∧ i < α 6 k - 1 then 0 else -6
def s_write (α : ZM) (k i v : Int) : ZM := if o_write α k i = 0 then rp α 8 (fu (α 8) (60 * k + i) (cutv (α 7 k) v)) else α
theorem ok_row {α : ZM} {k w n : Int} (ok : Ok α) : Ok (s_row α k w n) := by
  unfold s_row
  split
  · rename_i h
    have hh : 0 ≤ k ∧ k < 8 ∧ 0 ≤ w ∧ w ≤ 3 ∧ 0 ≤ n ∧ n ≤ 60 := by
      unfold o_row at h
      split at h
      · cases h
      · split at h
        · cases h
        · omega
    refine ⟨ok.s, ok.l, ok.u, ok.n, ok.h, ok.g, ok.w, fun j j0 j8 => ?_, ok.r⟩
    have e := ok.e j j0 j8
    show (0 ≤ fu (α 6) k (n + 1) j ∧ fu (α 6) k (n + 1) j ≤ 61) ∧ (fu (α 6) k (n + 1) j ≠ 0 → (0 ≤ fu (α 7) k w j ∧ fu (α 7) k w j ≤ 3) ∧ ∀ i : Int, 0 ≤ i → i < fu (α 6) k (n + 1) j - 1 → r64 (if 60 * k ≤ 60 * j + i ∧ 60 * j + i < 60 * k + n then 0 else α 8 (60 * j + i)))
    by_cases q : j = k
    · subst q
      rw [fu_s, fu_s]
      refine ⟨by omega, fun _ => ⟨by omega, fun i i0 i1 => ?_⟩⟩
      rw [if_pos (by omega)]; constructor <;> decide
    · rw [fu_n _ _ q, fu_n _ _ q]
      refine ⟨e.1, fun z => ⟨(e.2 z).1, fun i i0 i1 => ?_⟩⟩
      split
      · constructor <;> decide
      · exact (e.2 z).2 i i0 i1
  · exact ok
theorem ok_tear {α : ZM} {k : Int} (ok : Ok α) : Ok (s_tear α k) := by
  unfold s_tear
  split
  · refine ⟨ok.s, ok.l, ok.u, ok.n, ok.h, ok.g, ok.w, fun j j0 j8 => ?_, ok.r⟩
    have e := ok.e j j0 j8
    show (0 ≤ fu (α 6) k 0 j ∧ fu (α 6) k 0 j ≤ 61) ∧ (fu (α 6) k 0 j ≠ 0 → (0 ≤ α 7 j ∧ α 7 j ≤ 3) ∧ ∀ i : Int, 0 ≤ i → i < fu (α 6) k 0 j - 1 → r64 (α 8 (60 * j + i)))
    by_cases q : j = k
    · subst q
      rw [fu_s]
      exact ⟨by omega, fun z => absurd rfl z⟩
    · rw [fu_n _ _ q]; exact e
  · exact ok
theorem ok_write {α : ZM} {k i v : Int} (ok : Ok α) (hv : r64 v) : Ok (s_write α k i v) := by
  unfold s_write
  split
  · refine ⟨ok.s, ok.l, ok.u, ok.n, ok.h, ok.g, ok.w, fun j j0 j8 => ?_, ok.r⟩
    have e := ok.e j j0 j8
    refine ⟨e.1, fun z => ⟨(e.2 z).1, fun i' i0 i1 => ?_⟩⟩
    show r64 (fu (α 8) (60 * k + i) (cutv (α 7 k) v) (60 * j + i'))
    by_cases q : 60 * j + i' = 60 * k + i
    · rw [q, fu_s]; exact cutv_r hv
    · rw [fu_n _ _ q]; exact (e.2 z).2 i' i0 i1
  · exact ok
/-- only cells of the slots change -/
theorem CS.slots {σ σ' α α' : ZM} (h : CS σ α) (o : Ou 2 5 σ σ') (hf : Fix σ') (a : ∀ c : Int, c ≠ 6 → c ≠ 7 → c ≠ 8 → α' c = α c) (hl : CL σ' α') : CS σ' α' := by
  obtain ⟨b, l, g, w, m, an, r⟩ := h
  have oc : ∀ c : Int, 6 ≤ c ∨ c < 2 → σ' c = σ c := fun c hc => o c (by omega)
  have e0 := a 0 (by decide) (by decide) (by decide)
  refine ⟨b.fr hf (fun c _ _ _ => oc c (by omega)), hl, g.fr (by rw [oc 1 (by omega)]) (by rw [oc 1 (by omega)]) (fun c _ _ => oc c (by have := g.1; omega)) (by rw [e0]) (a 1 (by decide) (by decide) (by decide)) (a 2 (by decide) (by decide) (by decide)) (a 3 (by decide) (by decide) (by decide)) (a 4 (by decide) (by decide) (by decide)), w.fr (by rw [oc 6 (by omega)]) (oc 7 (by omega)) (by rw [e0]) (a 5 (by decide) (by decide) (by decide)), m.fr (by rw [oc 1 (by omega)]) (by rw [oc 1 (by omega)]) (by rw [oc 141 (by omega)]) (by rw [e0]) (by rw [e0]) (by rw [e0]), an.fr (fun c _ _ => oc c (by omega)) (by rw [e0]) (a 9 (by decide) (by decide) (by decide)) (a 10 (by decide) (by decide) (by decide)), r.fr (fun c _ _ => oc c (by omega)) (a 11 (by decide) (by decide) (by decide))⟩
theorem b_row {X : ZS} {σ α : ZM} {T : Int → ZM → Prop} {k w n : Int} (hk : r32 k) (hw : r32 w) (hn : r32 n) (cs : CS σ α) (ok : Ok α) (h : ∀ σ', Ou 1 210 σ σ' → CS σ' (s_row α k w n) → T (o_row k w n) σ') : ZC X (rX11_row zN) mX11_row [(2, 1), (0, k), (0, w), (0, n)] zN σ (zQi T) := by
  have hf := cs.fix
  have bad : o_row k w n ≠ 0 → T (o_row k w n) σ := fun q => h σ Ou.rfl' (by unfold s_row; rw [if_neg q]; exact cs)
  have no2 : (¬ (0 ≤ k ∧ k < 8) ∨ w < 0 ∨ 3 < w ∨ 60 < n) → T (-2) σ := fun q => by
    have e : o_row k w n = -2 := by unfold o_row; rw [if_pos q]
    rw [e] at bad; exact bad (by decide)
  refine bk_X11_row ⟨hf, c_exists hk (fun k0 k8 => ⟨fun q => (by cases q), fun _ => ⟨hw, fun q => no2 (by omega), fun q1 => ⟨fun q => no2 (by omega), fun q2 => ⟨hn, fun q3 => ⟨fun q4 => ⟨hf, ?_⟩, fun q4 => ?_⟩, fun q => no2 (by omega)⟩⟩⟩⟩) (fun q => ⟨fun _ => no2 (Or.inl q), fun q => (by cases q)⟩)⟩
  · have eo : o_row k w n = 0 := by unfold o_row; rw [if_neg (by omega), if_neg (by omega)]
    unfold s_row at h
    rw [eo, if_pos rfl] at h
    refine bk_X8_lay (c_exists hk (fun _ _ => ⟨fun _ => ⟨hf, k0, k8, ?_⟩, fun q => (by cases q)⟩) (fun q => absurd ⟨k0, k8⟩ q))
    obtain ⟨σ0, hσ0⟩ : ∃ σ0 : ZM, σ0 = z_up (z_up σ 4 k w) 5 k n := ⟨_, rfl⟩
    rw [← hσ0]
    have f0 : Fix σ0 := by rw [hσ0]; exact (hf.upA la_4 (by decide)).upA la_5 (by decide)
    have o0 : Ou 2 5 σ σ0 := by rw [hσ0]; exact (Ou.rfl'.up (by decide) (by decide)).up (by decide) (by decide)
    have e5 : σ0 5 = fu (σ 5) k n := by rw [hσ0, z_up_row, z_up_far _ _ _ (by decide)]
    have e4 : σ0 4 = fu (σ 4) k w := by rw [hσ0, z_up_far _ _ _ (by decide), z_up_row]
    have e3 : σ0 3 = σ 3 := by rw [hσ0, z_up_far _ _ _ (by decide), z_up_far _ _ _ (by decide)]
    have loop : ∀ (l : Nat) (i : Int) (τ : ZM), 0 ≤ i → i + l = n → Fix τ → Ou 2 5 σ τ → τ 5 = σ0 5 → τ 4 = σ0 4 → (∀ t : Int, τ 3 t = if 60 * k ≤ t ∧ t < 60 * k + i then 0 else σ 3 t) → Z X (rX8_lay zN) mX8_lay 26 [(2, 2), (0, k), (9, 0), (0, n), (0, i)] [] zN τ (zQv (fun σ8 => T 0 σ8)) := by
      intro l
      induction l with
      | zero =>
        intro i τ i0 hi f o t5 t4 t3
        have : i = n := by omega
        subst this
        refine bk_X8_lay_26 ⟨hn, hn, fun _ => h τ (o.mono (by decide) (by decide)) (cs.slots o f (fun c c6 c7 c8 => ?_) ?_), fun q => absurd (Int.le_refl _) q⟩
        · rw [rp_n _ _ c8, rp_n _ _ c7, rp_n _ _ c6]
        · intro j j0 j8
          show τ 5 j = fu (α 6) k (i + 1) j - 1 ∧ (fu (α 6) k (i + 1) j ≠ 0 → τ 4 j = fu (α 7) k w j ∧ ∀ i' : Int, 0 ≤ i' → i' < fu (α 6) k (i + 1) j - 1 → τ 3 (j * 60 + i') = if 60 * k ≤ 60 * j + i' ∧ 60 * j + i' < 60 * k + i then 0 else α 8 (60 * j + i'))
          have lj := cs.2.1 j j0 j8
          rw [t5, t4, e5, e4]
          by_cases q : j = k
          · subst q
            rw [fu_s, fu_s, fu_s, fu_s]
            refine ⟨by omega, fun _ => ⟨rfl, fun i' a1 a2 => ?_⟩⟩
            rw [t3, if_pos (by omega), if_pos (by omega)]
          · rw [fu_n _ _ q, fu_n _ _ q, fu_n _ _ q, fu_n _ _ q]
            refine ⟨lj.1, fun z => ⟨(lj.2 z).1, fun i' a1 a2 => ?_⟩⟩
            have := (ok.e j j0 j8).1
            rw [t3, if_neg (by omega), if_neg (by omega)]
            exact (lj.2 z).2 i' a1 a2
      | succ l ih =>
        intro i τ i0 hi f o t5 t4 t3
        refine bk_X8_lay_26 ⟨by constructor <;> omega, hn, fun q => absurd q (by omega), fun q => ⟨fun q2 => absurd q2 (by omega), fun q2 => ⟨f, by omega, by omega, ?_⟩⟩⟩
        refine ih (i + 1) _ (by omega) (by omega) (f.upA la_3 (by decide)) (o.up (by decide) (by decide)) (by rw [z_up_far _ _ _ (by decide), t5]) (by rw [z_up_far _ _ _ (by decide), t4]) (fun t => ?_)
        rw [z_up_row]
        by_cases q3 : t = k * 60 + i
        · subst q3; rw [fu_s, if_pos (by omega)]
        · rw [fu_n _ _ q3, t3]
          by_cases q4 : 60 * k ≤ t ∧ t < 60 * k + i
          · rw [if_pos q4, if_pos (by omega)]
          · rw [if_neg q4, if_neg (by omega)]
    exact loop n.toNat 0 σ0 (by omega) (by omega) f0 o0 rfl rfl (fun t => by rw [e3, if_neg (by omega)])
  · have e : o_row k w n = -3 := by unfold o_row; rw [if_neg (by omega), if_pos (by omega)]
    rw [e] at bad; exact bad (by decide)
theorem b_tear {X : ZS} {σ α : ZM} {T : Bool → ZM → Prop} {k : Int} (hk : r32 k) (cs : CS σ α) (ok : Ok α) (h : ∀ σ', Ou 1 210 σ σ' → CS σ' (s_tear α k) → T (o_tear α k) σ') : ZC X (rX11_tear zN) mX11_tear [(2, 1), (0, k)] zN σ (zQz T) := by
  have hf := cs.fix
  refine bk_X11_tear ⟨hf, c_sholds hk hf cs.2.1 ok (fun k0 k8 ke => ⟨fun _ => ⟨hf, ?_⟩, fun q => (by cases q)⟩) (fun q => ⟨fun q => (by cases q), fun _ => ?_⟩)⟩
  · have e : o_tear α k = true := decide_eq_true ⟨k0, k8, ke⟩
    unfold s_tear at h
    rw [e, if_pos rfl] at h
    refine bk_X8_empty (c_exists hk (fun _ _ => ⟨fun q => (by cases q), fun _ => ⟨hf, k0, k8, ?_⟩⟩) (fun q => absurd ⟨k0, k8⟩ q))
    have o : Ou 2 5 σ (z_up σ 5 k (-1)) := Ou.rfl'.up (by decide) (by decide)
    refine h _ (o.mono (by decide) (by decide)) (cs.slots o (hf.upA la_5 (by decide)) (fun c c6 _ _ => rp_n _ _ c6) (fun j j0 j8 => ?_))
    have lj := cs.2.1 j j0 j8
    rw [z_up_row, z_up_far _ _ _ (by decide), z_up_far _ _ _ (by decide)]
    show fu (σ 5) k (-1) j = fu (α 6) k 0 j - 1 ∧ (fu (α 6) k 0 j ≠ 0 → σ 4 j = α 7 j ∧ ∀ i' : Int, 0 ≤ i' → i' < fu (α 6) k 0 j - 1 → σ 3 (j * 60 + i') = α 8 (60 * j + i'))
    by_cases q : j = k
    · subst q
      rw [fu_s, fu_s]
      exact ⟨rfl, fun z => absurd rfl z⟩
    · rw [fu_n _ _ q, fu_n _ _ q]; exact lj
  · have e : o_tear α k = false := decide_eq_false q
    unfold s_tear at h
    rw [e, if_neg (by decide)] at h
    exact h σ Ou.rfl' cs
theorem b_write {X : ZS} {σ α : ZM} {T : Int → ZM → Prop} {k i v : Int} (hk : r32 k) (hi : r32 i) (cs : CS σ α) (ok : Ok α) (h : ∀ σ', Ou 1 210 σ σ' → CS σ' (s_write α k i v) → T (o_write α k i) σ') : ZC X (rX11_write zN) mX11_write [(2, 1), (0, k), (0, i), (1, v)] zN σ (zQi T) := by
  have hf := cs.fix
  have bad : ∀ x, o_write α k i = x → x ≠ 0 → T x σ := fun x e q => by
    unfold s_write at h; rw [e, if_neg q] at h; exact h σ Ou.rfl' cs
  refine bk_X11_write ⟨hf, c_exists hk (fun k0 k8 => ⟨fun _ => ⟨hf, ?_⟩, fun q => (by cases q)⟩) (fun q => ⟨fun q => (by cases q), fun _ => bad (-2) (by unfold o_write; rw [if_pos q]) (by decide)⟩)⟩
  have k08 : ¬ ¬ (0 ≤ k ∧ k < 8) := fun q => q ⟨k0, k8⟩
  refine c_sholds hk hf cs.2.1 ok (fun _ _ ke => ⟨fun _ => ⟨hf, ?_⟩, fun q => (by cases q)⟩) (fun q => ⟨fun q => (by cases q), fun _ => bad (-5) (by unfold o_write; rw [if_neg k08, if_pos (by apply Classical.byContradiction; intro w; exact q ⟨k0, k8, w⟩)]) (by decide)⟩)
  refine bk_X8_put (c_holdsNumber hk hi hf cs.2.1 ok (fun _ _ _ i0 i1 => ⟨fun _ => ⟨hf, k0, k8, ?_⟩, fun q => (by cases q)⟩) (fun q => ⟨fun q => (by cases q), fun _ => ⟨fun _ => bad (-6) (by unfold o_write; rw [if_neg k08, if_neg ke, if_neg (fun w => q ⟨k0, k8, ke, w.1, w.2⟩)]) (by decide), fun q => (by cases q)⟩⟩))
  have lk := cs.2.1 k k0 k8
  have ek := ok.e k k0 k8
  have eo : o_write α k i = 0 := by unfold o_write; rw [if_neg k08, if_neg ke, if_pos ⟨i0, i1⟩]
  unfold s_write at h
  rw [eo, if_pos rfl] at h
  rw [(lk.2 ke).1]
  refine c_cut (ek.2 ke).1.1 (ek.2 ke).1.2 ⟨by omega, by omega, fun q => (by cases q), fun _ => ?_⟩
  have o : Ou 2 5 σ (z_up σ 3 (k * 60 + i) (cutv (α 7 k) v)) := Ou.rfl'.up (by decide) (by decide)
  refine h _ (o.mono (by decide) (by decide)) (cs.slots o (hf.upA la_3 (by decide)) (fun c _ _ c8 => rp_n _ _ c8) (fun j j0 j8 => ?_))
  have lj := cs.2.1 j j0 j8
  rw [z_up_row, z_up_far _ _ _ (by decide), z_up_far _ _ _ (by decide)]
  refine ⟨lj.1, fun z => ⟨(lj.2 z).1, fun i' a1 a2 => ?_⟩⟩
  show fu (σ 3) (k * 60 + i) (cutv (α 7 k) v) (j * 60 + i') = fu (α 8) (60 * k + i) (cutv (α 7 k) v) (60 * j + i')
  have a2 : i' < α 6 j - 1 := a2
  by_cases q : j * 60 + i' = k * 60 + i
  · rw [q, show 60 * j + i' = 60 * k + i by omega, fu_s, fu_s]
  · rw [fu_n _ _ q, fu_n _ _ (by omega)]; exact (lj.2 z).2 i' a1 a2
