/-! what both boards hold, as a memory of its own: 0: how many seen, laws, used, nearest, answer there; 1 to 4: x, y, number, doubt; 5: laws; 6, 7, 8: slots' ends, widths, numbers; 9, 10: the answer's tops and bottoms; 11: the result -/
theorem w_range {a : Int} (h : z_l a = (9, 3)) : 18 ≤ a ∧ a ≤ 197 := by
  have h1 := z_l_pos (a := a) (by rw [h]; decide)
  have h2 : ∀ i, i < z_lay.length → z_lay.getD i (99, 0) = (9, 3) → 18 ≤ i ∧ i ≤ 197 := by decide +kernel
  have := h2 _ h1.2 h
  omega
def eqf (t b t' b' : Int) : Prop := b ≠ 0 ∧ b' ≠ 0 ∧ t * b' = t' * b
def Ok (α : ZM) : Prop := (0 ≤ α 0 0 ∧ α 0 0 ≤ 8) ∧ (0 ≤ α 0 1 ∧ α 0 1 ≤ 6) ∧ (-1 ≤ α 0 2 ∧ α 0 2 < α 0 1) ∧ (1 ≤ α 0 3 ∧ α 0 3 ≤ 8) ∧ (α 0 4 = 0 ∨ α 0 4 = 1) ∧
  (∀ i : Int, 0 ≤ i → i < α 0 0 → (-20 ≤ α 1 i ∧ α 1 i ≤ 20) ∧ (-20 ≤ α 2 i ∧ α 2 i ≤ 20) ∧ (-1000 ≤ α 3 i ∧ α 3 i ≤ 1000) ∧ (0 ≤ α 4 i ∧ α 4 i ≤ 100)) ∧
  (∀ l w : Int, 0 ≤ l → l < α 0 1 → 0 ≤ w → w ≤ 80 → (0 ≤ α 5 (81 * l + w) ∧ α 5 (81 * l + w) ≤ 16000) ∧ (w = 0 → α 5 (81 * l + w) = 0)) ∧
  (∀ k : Int, 0 ≤ k → k < 8 → (0 ≤ α 6 k ∧ α 6 k ≤ 61) ∧ (α 6 k ≠ 0 → (0 ≤ α 7 k ∧ α 7 k ≤ 3) ∧ ∀ i : Int, 0 ≤ i → i < α 6 k - 1 → r64 (α 8 (60 * k + i)))) ∧ 0 < α 11 1
theorem Ok.s {α : ZM} (h : Ok α) : 0 ≤ α 0 0 ∧ α 0 0 ≤ 8 := h.1
theorem Ok.l {α : ZM} (h : Ok α) : 0 ≤ α 0 1 ∧ α 0 1 ≤ 6 := h.2.1
theorem Ok.u {α : ZM} (h : Ok α) : -1 ≤ α 0 2 ∧ α 0 2 < α 0 1 := h.2.2.1
theorem Ok.n {α : ZM} (h : Ok α) : 1 ≤ α 0 3 ∧ α 0 3 ≤ 8 := h.2.2.2.1
theorem Ok.h {α : ZM} (h : Ok α) : α 0 4 = 0 ∨ α 0 4 = 1 := h.2.2.2.2.1
theorem Ok.g {α : ZM} (h : Ok α) : ∀ i : Int, 0 ≤ i → i < α 0 0 → (-20 ≤ α 1 i ∧ α 1 i ≤ 20) ∧ (-20 ≤ α 2 i ∧ α 2 i ≤ 20) ∧ (-1000 ≤ α 3 i ∧ α 3 i ≤ 1000) ∧ (0 ≤ α 4 i ∧ α 4 i ≤ 100) := h.2.2.2.2.2.1
theorem Ok.w {α : ZM} (h : Ok α) : ∀ l w : Int, 0 ≤ l → l < α 0 1 → 0 ≤ w → w ≤ 80 → (0 ≤ α 5 (81 * l + w) ∧ α 5 (81 * l + w) ≤ 16000) ∧ (w = 0 → α 5 (81 * l + w) = 0) := h.2.2.2.2.2.2.1
theorem Ok.e {α : ZM} (h : Ok α) : ∀ k : Int, 0 ≤ k → k < 8 → (0 ≤ α 6 k ∧ α 6 k ≤ 61) ∧ (α 6 k ≠ 0 → (0 ≤ α 7 k ∧ α 7 k ≤ 3) ∧ ∀ i : Int, 0 ≤ i → i < α 6 k - 1 → r64 (α 8 (60 * k + i))) := h.2.2.2.2.2.2.2.1
theorem Ok.r {α : ZM} (h : Ok α) : 0 < α 11 1 := h.2.2.2.2.2.2.2.2
/-! the class -/
def CB (σ : ZM) : Prop := Fix σ ∧ AW σ ∧ GP (σ 17) ∧ ∀ i : Int, 0 ≤ i → i < 8 → σ 142 i = 153 + 2 * i
def CL (σ α : ZM) : Prop := ∀ k : Int, 0 ≤ k → k < 8 → σ 5 k = α 6 k - 1 ∧ (α 6 k ≠ 0 → σ 4 k = α 7 k ∧ ∀ i : Int, 0 ≤ i → i < α 6 k - 1 → σ 3 (k * 60 + i) = α 8 (60 * k + i))
def SG (σ : ZM) (s : Int) (α : ZM) : Prop := σ (s + 1) 2 = α 0 0 ∧ ∀ i : Int, 0 ≤ i → i < α 0 0 → σ (s + 2) i = α 1 i ∧ σ (s + 3) i = α 2 i ∧ σ (s + 4) i = α 3 i ∧ σ (s + 5) i = α 4 i
def CG (σ α : ZM) : Prop := (σ 1 11 = 199 ∧ σ 1 12 = 205 ∨ σ 1 11 = 205 ∧ σ 1 12 = 199) ∧ SG σ (σ 1 11) α
def CW (σ α : ZM) : Prop := σ 6 1 = α 0 1 ∧ ∀ l w : Int, 0 ≤ l → l < α 0 1 → 1 ≤ w → w ≤ 80 → σ 7 (l * 81 + w) = α 5 (81 * l + w)
def CM (σ α : ZM) : Prop := σ 1 13 = α 0 2 ∧ σ 1 14 = α 0 3 ∧ σ 141 6 = α 0 4
def aT (k : Int) : Int := if k = 0 then 143 else if k = 1 then 149 else if k = 2 then 145 else 147 + 2 * k
def aB (k : Int) : Int := if k = 1 then 151 else 147
def CA (σ α : ZM) : Prop := α 0 4 = 1 → ∀ k : Int, 0 ≤ k → k < 11 → eqf (wv σ (aT k)) (wv σ (aB k)) (α 9 k) (α 10 k)
def CR (σ α : ZM) : Prop := wv σ 180 = α 11 0 ∧ wv σ 182 = α 11 1
def CS (σ α : ZM) : Prop := CB σ ∧ CL σ α ∧ CG σ α ∧ CW σ α ∧ CM σ α ∧ CA σ α ∧ CR σ α
theorem wv_fr {σ σ' : ZM} {a : Int} (h1 : σ' a = σ a) (h2 : σ' (a + 1) = σ (a + 1)) : wv σ' a = wv σ a := by unfold wv wm; rw [h1, h2]
theorem wf_fr {σ σ' : ZM} {a : Int} (h1 : σ' a = σ a) (h2 : σ' (a + 1) = σ (a + 1)) (h : WF σ a) : WF σ' a := by unfold WF at h ⊢; rw [h1, h2]; exact h
theorem aT_r {k : Int} (h0 : 0 ≤ k) (h1 : k < 11) : 143 ≤ aT k ∧ aT k ≤ 167 := by unfold aT; split <;> (try split) <;> (try split) <;> omega
theorem aB_r (k : Int) : 147 ≤ aB k ∧ aB k ≤ 151 := by unfold aB; split <;> omega
theorem CB.fr {σ σ' : ZM} (h : CB σ) (hf : Fix σ') (he : ∀ c : Int, 17 ≤ c → c ≤ 198 → c ≠ 141 → σ' c = σ c) : CB σ' := by
  refine ⟨hf, fun a ha => ?_, by rw [he 17 (by omega) (by omega) (by omega)]; exact h.2.2.1, fun i h0 h1 => by rw [he 142 (by omega) (by omega) (by omega)]; exact h.2.2.2 i h0 h1⟩
  have r := w_range ha
  have n1 : a ≠ 141 := fun q => by rw [q, la_141] at ha; cases ha
  have n2 : a + 1 ≠ 141 := fun q => by have := zo_9_0 ha; rw [q, la_141] at this; cases this
  exact wf_fr (he a (by omega) (by omega) n1) (he (a + 1) (by omega) (by omega) n2) (h.2.1 a ha)
theorem CL.fr {σ σ' α α' : ZM} (h : CL σ α) (h3 : σ' 3 = σ 3) (h4 : σ' 4 = σ 4) (h5 : σ' 5 = σ 5) (a6 : α' 6 = α 6) (a7 : α' 7 = α 7) (a8 : α' 8 = α 8) : CL σ' α' := by
  unfold CL at h ⊢; rw [h3, h4, h5, a6, a7, a8]; exact h
theorem SG.fr {σ σ' α α' : ZM} {s : Int} (h : SG σ s α) (he : ∀ c : Int, s + 1 ≤ c → c ≤ s + 5 → σ' c = σ c) (a0 : α' 0 0 = α 0 0) (a1 : α' 1 = α 1) (a2 : α' 2 = α 2) (a3 : α' 3 = α 3) (a4 : α' 4 = α 4) : SG σ' s α' := by
  unfold SG at h ⊢; rw [he (s + 1) (by omega) (by omega), he (s + 2) (by omega) (by omega), he (s + 3) (by omega) (by omega), he (s + 4) (by omega) (by omega), he (s + 5) (by omega) (by omega), a0, a1, a2, a3, a4]; exact h
theorem CG.fr {σ σ' α α' : ZM} (h : CG σ α) (h11 : σ' 1 11 = σ 1 11) (h12 : σ' 1 12 = σ 1 12) (he : ∀ c : Int, σ 1 11 + 1 ≤ c → c ≤ σ 1 11 + 5 → σ' c = σ c) (a0 : α' 0 0 = α 0 0) (a1 : α' 1 = α 1) (a2 : α' 2 = α 2) (a3 : α' 3 = α 3) (a4 : α' 4 = α 4) : CG σ' α' := by
  refine ⟨by rw [h11, h12]; exact h.1, ?_⟩
  rw [h11]
  exact h.2.fr he a0 a1 a2 a3 a4
theorem CW.fr {σ σ' α α' : ZM} (h : CW σ α) (h6 : σ' 6 1 = σ 6 1) (h7 : σ' 7 = σ 7) (a0 : α' 0 1 = α 0 1) (a5 : α' 5 = α 5) : CW σ' α' := by
  unfold CW at h ⊢; rw [h6, h7, a0, a5]; exact h
theorem CM.fr {σ σ' α α' : ZM} (h : CM σ α) (h13 : σ' 1 13 = σ 1 13) (h14 : σ' 1 14 = σ 1 14) (h6 : σ' 141 6 = σ 141 6) (a2 : α' 0 2 = α 0 2) (a3 : α' 0 3 = α 0 3) (a4 : α' 0 4 = α 0 4) : CM σ' α' := by
  unfold CM at h ⊢; rw [h13, h14, h6, a2, a3, a4]; exact h
theorem CA.fr {σ σ' α α' : ZM} (h : CA σ α) (he : ∀ c : Int, 143 ≤ c → c ≤ 168 → σ' c = σ c) (a4 : α' 0 4 = α 0 4) (a9 : α' 9 = α 9) (a10 : α' 10 = α 10) : CA σ' α' := by
  intro h4 k k0 k1
  rw [a9, a10, wv_fr (he _ (by have := aT_r k0 k1; omega) (by have := aT_r k0 k1; omega)) (he _ (by have := aT_r k0 k1; omega) (by have := aT_r k0 k1; omega)), wv_fr (he _ (by have := aB_r k; omega) (by have := aB_r k; omega)) (he _ (by have := aB_r k; omega) (by have := aB_r k; omega))]
  exact h (by rw [← a4]; exact h4) k k0 k1
theorem CA.none {σ α : ZM} (h : α 0 4 = 0) : CA σ α := fun h1 => by rw [h] at h1; cases h1
theorem CR.fr {σ σ' α α' : ZM} (h : CR σ α) (he : ∀ c : Int, 180 ≤ c → c ≤ 183 → σ' c = σ c) (a11 : α' 11 = α 11) : CR σ' α' := by
  unfold CR at h ⊢
  rw [a11, wv_fr (he 180 (by omega) (by omega)) (he 181 (by omega) (by omega)), wv_fr (he 182 (by omega) (by omega)) (he 183 (by omega) (by omega))]
  exact h
theorem CS.fr {σ σ' α : ZM} (h : CS σ α) (hf : Fix σ') (he : ∀ c : Int, 1 ≤ c → c ≤ 210 → σ' c = σ c) : CS σ' α := by
  obtain ⟨b, l, g, w, m, a, r⟩ := h
  have e1 := he 1 (by omega) (by omega)
  have e6 := he 6 (by omega) (by omega)
  have e141 := he 141 (by omega) (by omega)
  refine ⟨b.fr hf (fun c _ _ _ => he c (by omega) (by omega)), l.fr (he 3 (by omega) (by omega)) (he 4 (by omega) (by omega)) (he 5 (by omega) (by omega)) rfl rfl rfl, g.fr (by rw [e1]) (by rw [e1]) (fun c _ _ => he c (by have := g.1; omega) (by have := g.1; omega)) rfl rfl rfl rfl rfl, w.fr (by rw [e6]) (he 7 (by omega) (by omega)) rfl rfl, m.fr (by rw [e1]) (by rw [e1]) (by rw [e141]) rfl rfl rfl, a.fr (fun c _ _ => he c (by omega) (by omega)) rfl rfl rfl, r.fr (fun c _ _ => he c (by omega) (by omega)) rfl⟩
/-! the model -/
def ML (σ α : ZM) : Prop := ∀ k : Int, 0 ≤ k → k < 8 → σ 213 k = α 6 k ∧ (α 6 k ≠ 0 → σ 214 k = α 7 k ∧ ∀ i : Int, 0 ≤ i → i < α 6 k - 1 → σ 215 (60 * k + i) = α 8 (60 * k + i))
def MG (σ α : ZM) : Prop := σ 211 4 = α 0 0 ∧ ∀ i : Int, 0 ≤ i → i < α 0 0 → σ 216 i = α 1 i ∧ σ 217 i = α 2 i ∧ σ 218 i = α 3 i ∧ σ 219 i = α 4 i
def MW (σ α : ZM) : Prop := σ 211 9 = α 0 1 ∧ ∀ l w : Int, 0 ≤ l → l < α 0 1 → 0 ≤ w → w ≤ 80 → σ 220 (81 * l + w) = α 5 (81 * l + w)
def MM (σ α : ZM) : Prop := σ 211 11 = α 0 2 ∧ σ 211 12 = α 0 3 ∧ σ 211 13 = α 0 4
def MV (α : ZM) (v : Int → Int) : Prop := (α 0 4 = 1 → ∀ k : Int, 0 ≤ k → k < 11 → -pw 15 < v (110 + k) ∧ -pw 15 < v (121 + k) ∧ eqf (v (110 + k)) (v (121 + k)) (α 9 k) (α 10 k)) ∧ v 0 = α 11 0 ∧ v 1 = α 11 1
def MS (σ α : ZM) : Prop := (∃ v, NM σ v ∧ MV α v) ∧ ML σ α ∧ MG σ α ∧ MW σ α ∧ MM σ α
theorem ML.fr {σ σ' α α' : ZM} (h : ML σ α) (h3 : σ' 213 = σ 213) (h4 : σ' 214 = σ 214) (h5 : σ' 215 = σ 215) (a6 : α' 6 = α 6) (a7 : α' 7 = α 7) (a8 : α' 8 = α 8) : ML σ' α' := by
  unfold ML at h ⊢; rw [h3, h4, h5, a6, a7, a8]; exact h
theorem MG.fr {σ σ' α α' : ZM} (h : MG σ α) (h4 : σ' 211 4 = σ 211 4) (he : ∀ c : Int, 216 ≤ c → c ≤ 219 → σ' c = σ c) (a0 : α' 0 0 = α 0 0) (a1 : α' 1 = α 1) (a2 : α' 2 = α 2) (a3 : α' 3 = α 3) (a4 : α' 4 = α 4) : MG σ' α' := by
  unfold MG at h ⊢; rw [h4, he 216 (by omega) (by omega), he 217 (by omega) (by omega), he 218 (by omega) (by omega), he 219 (by omega) (by omega), a0, a1, a2, a3, a4]; exact h
theorem MW.fr {σ σ' α α' : ZM} (h : MW σ α) (h9 : σ' 211 9 = σ 211 9) (h7 : σ' 220 = σ 220) (a0 : α' 0 1 = α 0 1) (a5 : α' 5 = α 5) : MW σ' α' := by
  unfold MW at h ⊢; rw [h9, h7, a0, a5]; exact h
theorem MM.fr {σ σ' α α' : ZM} (h : MM σ α) (h1 : σ' 211 11 = σ 211 11) (h2 : σ' 211 12 = σ 211 12) (h3 : σ' 211 13 = σ 211 13) (a2 : α' 0 2 = α 0 2) (a3 : α' 0 3 = α 0 3) (a4 : α' 0 4 = α 0 4) : MM σ' α' := by
  unfold MM at h ⊢; rw [h1, h2, h3, a2, a3, a4]; exact h
theorem MV.fr {α α' : ZM} {v : Int → Int} (h : MV α v) (a4 : α' 0 4 = α 0 4) (a9 : α' 9 = α 9) (a10 : α' 10 = α 10) (a11 : α' 11 = α 11) : MV α' v := by
  unfold MV at h ⊢; rw [a4, a9, a10, a11]; exact h
theorem MV.none {α α' : ZM} {v : Int → Int} (h : MV α v) (a4 : α' 0 4 = 0) (a11 : α' 11 = α 11) : MV α' v := by
  refine ⟨fun h1 => (by rw [a4] at h1; cases h1), ?_⟩
  rw [a11]; exact h.2
theorem MS.fr {σ σ' α : ZM} (h : MS σ α) (hf : Fix σ') (he : ∀ c : Int, 211 ≤ c → c ≤ 229 → σ' c = σ c) : MS σ' α := by
  obtain ⟨⟨v, n, mv⟩, l, g, w, m⟩ := h
  have e := he 211 (by omega) (by omega)
  exact ⟨⟨v, n.row hf (he 212 (by omega) (by omega)), mv⟩, l.fr (he 213 (by omega) (by omega)) (he 214 (by omega) (by omega)) (he 215 (by omega) (by omega)) rfl rfl rfl, g.fr (by rw [e]) (fun c _ _ => he c (by omega) (by omega)) rfl rfl rfl rfl rfl, w.fr (by rw [e]) (he 220 (by omega) (by omega)) rfl rfl, m.fr (by rw [e]) (by rw [e]) (by rw [e]) rfl rfl rfl⟩
theorem CS.fix {σ α : ZM} (h : CS σ α) : Fix σ := h.1.1
theorem MS.fix {σ α : ZM} (h : MS σ α) : Fix σ := by obtain ⟨⟨v, n, _⟩, _⟩ := h; exact n.1
