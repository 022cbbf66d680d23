theorem c_readPlace {X : ZS} {σ α : ZM} {T : Bool → ZM → Prop} {t k : Int} (hf : Fix σ) (cl : CL σ α) (ok : Ok α) (k0 : 0 ≤ k) (k8 : k < 8) (ke : α 6 k ≠ 0) (h3 : σ 2 3 = k) (h4 : σ 2 4 = t) (t0 : 0 ≤ t) (t9 : t ≤ 1000)
    (h1 : ∀ σ', Fix σ' → (∀ c : Int, c ≠ 2 → σ' c = σ c) → σ' 2 3 = k → σ' 2 4 = t + 2 → σ' 2 6 = α 8 (60 * k + t) → σ' 2 7 = α 8 (60 * k + (t + 1)) → t + 1 < α 6 k - 1 → (-20 ≤ α 8 (60 * k + t) ∧ α 8 (60 * k + t) ≤ 20) → (-20 ≤ α 8 (60 * k + (t + 1)) ∧ α 8 (60 * k + (t + 1)) ≤ 20) → T true σ')
    (h0 : ∀ σ' e, Fix σ' → (∀ c : Int, c ≠ 2 → σ' c = σ c) → σ' 2 8 = e → (e = -6 ∧ (α 6 k - 1 ≤ t ∨ t < α 6 k - 1 ∧ (-20 ≤ α 8 (60 * k + t) ∧ α 8 (60 * k + t) ≤ 20) ∧ α 6 k - 1 ≤ t + 1) ∨ e = -4 ∧ (t < α 6 k - 1 ∧ ¬ (-20 ≤ α 8 (60 * k + t) ∧ α 8 (60 * k + t) ≤ 20) ∨ t + 1 < α 6 k - 1 ∧ (-20 ≤ α 8 (60 * k + t) ∧ α 8 (60 * k + t) ≤ 20) ∧ ¬ (-20 ≤ α 8 (60 * k + (t + 1)) ∧ α 8 (60 * k + (t + 1)) ≤ 20))) → T false σ') :
    ZC X (rX8_readPlace zN) mX8_readPlace [(2, 2)] zN σ (zQz T) := by
  refine bk_X8_readPlace (c_readNext hf cl ok k0 k8 ke h3 h4 t0 (by constructor <;> omega) (by decide) (by decide) (fun t1 v1 v2 => ⟨fun _ => ?_, fun q => (by cases q)⟩) (fun q => ⟨fun q => (by cases q), fun _ => h0 _ (-6) (hf.upF la_2 8 (by decide +kernel)) (fun c hc => z_up_far _ _ _ hc) (z_up_same _ _ _ _) (Or.inl ⟨rfl, Or.inl q⟩)⟩) (fun q1 q => ⟨fun q => (by cases q), fun _ => h0 _ (-4) (hf.upF la_2 8 (by decide +kernel)) (fun c hc => z_up_far _ _ _ hc) (z_up_same _ _ _ _) (Or.inr ⟨rfl, Or.inl ⟨q1, q⟩⟩)⟩))
  rw [z_up_ne _ (Or.inr (by decide)), z_up_same]
  obtain ⟨τ, hτ⟩ : ∃ τ : ZM, τ = z_up (z_up (z_up σ 2 5 (α 8 (60 * k + t))) 2 4 (t + 1)) 2 6 (α 8 (60 * k + t)) := ⟨_, rfl⟩
  rw [← hτ]
  have f : Fix τ := by rw [hτ]; exact ((hf.upF la_2 5 (by decide +kernel)).upF la_2 4 (by decide +kernel)).upF la_2 6 (by decide +kernel)
  have o : ∀ c : Int, c ≠ 2 → τ c = σ c := fun c hc => by rw [hτ, z_up_far _ _ _ hc, z_up_far _ _ _ hc, z_up_far _ _ _ hc]
  have p3 : τ 2 3 = k := by rw [hτ, z_up_ne _ (Or.inr (by decide)), z_up_ne _ (Or.inr (by decide)), z_up_ne _ (Or.inr (by decide)), h3]
  have p4 : τ 2 4 = t + 1 := by rw [hτ, z_up_ne _ (Or.inr (by decide)), z_up_same]
  have p6 : τ 2 6 = α 8 (60 * k + t) := by rw [hτ, z_up_same]
  have clt : CL τ α := cl.fr (o 3 (by decide)) (o 4 (by decide)) (o 5 (by decide)) rfl rfl rfl
  refine c_readNext f clt ok k0 k8 ke p3 p4 (by omega) (by constructor <;> omega) (by decide) (by decide) (fun t2 w1 w2 => ⟨fun _ => ?_, fun q => (by cases q)⟩) (fun q => ⟨fun q => (by cases q), fun _ => h0 _ (-6) (f.upF la_2 8 (by decide +kernel)) (fun c hc => by rw [z_up_far _ _ _ hc]; exact o c hc) (z_up_same _ _ _ _) (Or.inl ⟨rfl, Or.inr ⟨t1, ⟨v1, v2⟩, q⟩⟩)⟩) (fun q1 q => ⟨fun q => (by cases q), fun _ => h0 _ (-4) (f.upF la_2 8 (by decide +kernel)) (fun c hc => by rw [z_up_far _ _ _ hc]; exact o c hc) (z_up_same _ _ _ _) (Or.inr ⟨rfl, Or.inr ⟨q1, ⟨v1, v2⟩, q⟩⟩)⟩)
  refine h1 _ (((f.upF la_2 5 (by decide +kernel)).upF la_2 4 (by decide +kernel)).upF la_2 7 (by decide +kernel)) (fun c hc => by rw [z_up_far _ _ _ hc, z_up_far _ _ _ hc, z_up_far _ _ _ hc]; exact o c hc) ?_ ?_ ?_ ?_ t2 ⟨v1, v2⟩ ⟨w1, w2⟩
  · rw [z_up_ne _ (Or.inr (by decide)), z_up_ne _ (Or.inr (by decide)), z_up_ne _ (Or.inr (by decide)), p3]
  · rw [z_up_ne _ (Or.inr (by decide)), z_up_same]; omega
  · rw [z_up_ne _ (Or.inr (by decide)), z_up_ne _ (Or.inr (by decide)), z_up_ne _ (Or.inr (by decide)), p6]
  · rw [z_up_same, z_up_ne _ (Or.inr (by decide)), z_up_same]
/-! seen -/
def dupS (α : ZM) (k : Int) (j : Nat) : Bool := tkb (fun i => α 8 (60 * k + (1 + 4 * i))) (fun i => α 8 (60 * k + (2 + 4 * i))) (α 8 (60 * k + (1 + 4 * (j : Int)))) (α 8 (60 * k + (2 + 4 * (j : Int)))) j
def gS (α : ZM) (k : Int) (i : Int) : Bool := if (i - 1) % 4 = 0 then decide (-20 ≤ α 8 (60 * k + i) ∧ α 8 (60 * k + i) ≤ 20) else if (i - 1) % 4 = 1 then (decide (-20 ≤ α 8 (60 * k + i) ∧ α 8 (60 * k + i) ≤ 20) && !dupS α k ((i - 2) / 4).toNat) else if (i - 1) % 4 = 2 then decide (-1000 ≤ α 8 (60 * k + i) ∧ α 8 (60 * k + i) ≤ 1000) else decide (0 ≤ α 8 (60 * k + i) ∧ α 8 (60 * k + i) ≤ 100)
theorem gS_0 (α : ZM) (k : Int) (j : Nat) : gS α k (1 + 4 * (j : Int)) = decide (-20 ≤ α 8 (60 * k + (1 + 4 * (j : Int))) ∧ α 8 (60 * k + (1 + 4 * (j : Int))) ≤ 20) := by unfold gS; rw [if_pos (by omega)]
theorem gS_1 (α : ZM) (k : Int) (j : Nat) : gS α k (1 + 4 * (j : Int) + 1) = (decide (-20 ≤ α 8 (60 * k + (1 + 4 * (j : Int) + 1)) ∧ α 8 (60 * k + (1 + 4 * (j : Int) + 1)) ≤ 20) && !dupS α k j) := by
  unfold gS
  rw [if_neg (by omega), if_pos (by omega), show ((1 + 4 * (j : Int) + 1 - 2) / 4).toNat = j by omega]
theorem gS_2 (α : ZM) (k : Int) (j : Nat) : gS α k (1 + 4 * (j : Int) + 1 + 1) = decide (-1000 ≤ α 8 (60 * k + (1 + 4 * (j : Int) + 1 + 1)) ∧ α 8 (60 * k + (1 + 4 * (j : Int) + 1 + 1)) ≤ 1000) := by
  unfold gS
  rw [if_neg (by omega), if_neg (by omega), if_pos (by omega)]
theorem gS_3 (α : ZM) (k : Int) (j : Nat) : gS α k (1 + 4 * (j : Int) + 1 + 1 + 1) = decide (0 ≤ α 8 (60 * k + (1 + 4 * (j : Int) + 1 + 1 + 1)) ∧ α 8 (60 * k + (1 + 4 * (j : Int) + 1 + 1 + 1)) ≤ 100) := by
  unfold gS
  rw [if_neg (by omega), if_neg (by omega), if_neg (by omega)]
def rdS (α : ZM) (k : Int) : Int := if α 6 k - 1 ≤ 0 then -6 else if 0 ≤ α 8 (60 * k + 0) ∧ α 8 (60 * k + 0) ≤ 8 then chk (α 6 k - 1) (gS α k) 1 (4 * (α 8 (60 * k + 0)).toNat) else -4
def o_seen (α : ZM) (k : Int) : Int := if ¬ (0 ≤ k ∧ k < 8) then -2 else if α 6 k = 0 then -5 else if rdS α k < 0 then rdS α k else α 8 (60 * k + 0)
def sg_all (α : ZM) (k : Int) : ZM := rp (rp (rp (rp (rp α 1 (fun i => α 8 (60 * k + (1 + 4 * i)))) 2 (fun i => α 8 (60 * k + (2 + 4 * i)))) 3 (fun i => α 8 (60 * k + (3 + 4 * i)))) 4 (fun i => α 8 (60 * k + (4 + 4 * i)))) 0 (fu (fu (α 0) 0 (α 8 (60 * k + 0))) 4 0)
def s_seen (α : ZM) (k : Int) : ZM := if 0 ≤ o_seen α k then sg_all α k else α
theorem rdS_ok {α : ZM} {k : Int} (h : ¬ rdS α k < 0) : (0 ≤ α 8 (60 * k + 0) ∧ α 8 (60 * k + 0) ≤ 8) ∧ ∀ j : Int, 1 ≤ j → j < 1 + 4 * α 8 (60 * k + 0) → gS α k j = true := by
  unfold rdS at h
  split at h
  · omega
  · split at h
    · rename_i q
      refine ⟨q, fun j j1 j2 => ?_⟩
      have z : chk (α 6 k - 1) (gS α k) 1 (4 * (α 8 (60 * k + 0)).toNat) = 0 := by
        rcases chk_le (n := α 6 k - 1) (g := gS α k) (l := 4 * (α 8 (60 * k + 0)).toNat) (i := 1) with e | e | e
        · exact e
        · omega
        · omega
      exact (chk_ok z j j1 (by omega)).2
    · omega
theorem ok_seen {α : ZM} {k : Int} (ok : Ok α) : Ok (s_seen α k) := by
  unfold s_seen
  split
  · rename_i h
    unfold o_seen at h
    split at h
    · omega
    · split at h
      · omega
      · split at h
        · omega
        · rename_i q
          have r := rdS_ok q
          refine ⟨r.1, ok.l, ok.u, ok.n, Or.inl rfl, fun i i0 i1 => ?_, ok.w, ok.e, ok.r⟩
          have i1 : i < α 8 (60 * k + 0) := i1
          obtain ⟨j, rfl⟩ : ∃ j : Nat, i = j := ⟨i.toNat, by omega⟩
          have g0 := r.2 (1 + 4 * (j : Int)) (by omega) (by omega)
          have g1 := r.2 (1 + 4 * (j : Int) + 1) (by omega) (by omega)
          have g2 := r.2 (1 + 4 * (j : Int) + 1 + 1) (by omega) (by omega)
          have g3 := r.2 (1 + 4 * (j : Int) + 1 + 1 + 1) (by omega) (by omega)
          rw [gS_0] at g0
          rw [gS_1, Bool.and_eq_true] at g1
          rw [gS_2] at g2
          rw [gS_3] at g3
          have g0 := of_decide_eq_true g0
          have g1 := of_decide_eq_true g1.1
          have g2 := of_decide_eq_true g2
          have g3 := of_decide_eq_true g3
          rw [show 1 + 4 * (j : Int) + 1 + 1 + 1 = 4 + 4 * (j : Int) by omega] at g3
          rw [show 1 + 4 * (j : Int) + 1 + 1 = 3 + 4 * (j : Int) by omega] at g2
          rw [show 1 + 4 * (j : Int) + 1 = 2 + 4 * (j : Int) by omega] at g1
          exact ⟨g0, g1, g2, g3⟩
  · exact ok
/-- four numbers on: what comes of the reading -/
theorem rd4 (n : Int) (g : Int → Bool) (t : Int) (l : Nat) : chk n g t (l + 4) = if n ≤ t then -6 else if g t then (if n ≤ t + 1 then -6 else if g (t + 1) then (if n ≤ t + 1 + 1 then -6 else if g (t + 1 + 1) then (if n ≤ t + 1 + 1 + 1 then -6 else if g (t + 1 + 1 + 1) then chk n g (t + 1 + 1 + 1 + 1) l else -4) else -4) else -4) else -4 := rfl
theorem c_readSight {X : ZS} {σ α : ZM} {T : Bool → ZM → Prop} {k s : Int} {j l : Nat} (hf : Fix σ) (cl : CL σ α) (ok : Ok α) (k0 : 0 ≤ k) (k8 : k < 8) (ke : α 6 k ≠ 0) (h3 : σ 2 3 = k) (h4 : σ 2 4 = 1 + 4 * (j : Int)) (j8 : j < 8) (hs : s = 199 ∨ s = 205) (h12 : σ 1 12 = s) (hz : σ (s + 1) 2 = j) (hx : ∀ i : Int, 0 ≤ i → i < j → σ (s + 2) i = α 8 (60 * k + (1 + 4 * i)) ∧ σ (s + 3) i = α 8 (60 * k + (2 + 4 * i))) (hr : ∀ i : Int, 0 ≤ i → i < j → r32 (α 8 (60 * k + (1 + 4 * i))) ∧ r32 (α 8 (60 * k + (2 + 4 * i))))
    (h1 : ∀ σ', Fix σ' → (∀ c : Int, c ≠ 2 → (c < s + 1 ∨ s + 5 < c) → σ' c = σ c) → σ' 2 3 = k → σ' 2 4 = 1 + 4 * ((j + 1 : Nat) : Int) → σ' (s + 1) 2 = ((j + 1 : Nat) : Int) → σ' (s + 2) = fu (σ (s + 2)) j (α 8 (60 * k + (1 + 4 * (j : Int)))) → σ' (s + 3) = fu (σ (s + 3)) j (α 8 (60 * k + (2 + 4 * (j : Int)))) → σ' (s + 4) = fu (σ (s + 4)) j (α 8 (60 * k + (3 + 4 * (j : Int)))) → σ' (s + 5) = fu (σ (s + 5)) j (α 8 (60 * k + (4 + 4 * (j : Int)))) → r32 (α 8 (60 * k + (1 + 4 * (j : Int)))) → r32 (α 8 (60 * k + (2 + 4 * (j : Int)))) → chk (α 6 k - 1) (gS α k) (1 + 4 * (j : Int)) (l + 4) = chk (α 6 k - 1) (gS α k) (1 + 4 * ((j + 1 : Nat) : Int)) l → T true σ')
    (h0 : ∀ σ' e, Fix σ' → (∀ c : Int, c ≠ 2 → σ' c = σ c) → σ' 2 8 = e → chk (α 6 k - 1) (gS α k) (1 + 4 * (j : Int)) (l + 4) = e → e < 0 → T false σ') :
    ZC X (rX11_readSight zN) mX11_readSight [(2, 1)] zN σ (zQz T) := by
  have z := sl hs
  have e1 : s + 1 + 1 = s + 2 := by omega
  have e2 : s + 1 + 2 = s + 3 := by omega
  have R := rd4 (α 6 k - 1) (gS α k) (1 + 4 * (j : Int)) l
  rw [gS_0, gS_1, gS_2, gS_3] at R
  refine bk_X11_readSight ⟨hf, c_readPlace hf cl ok k0 k8 ke h3 h4 (by omega) (by omega) (fun σ3 f3 o3 p3 p4 p6 p7 t1 v1 v2 => ⟨fun _ => ?_, fun q => (by cases q)⟩) (fun σ3 e f3 o3 p8 he => ⟨fun q => (by cases q), fun _ => h0 σ3 e f3 o3 p8 ?_ ?_⟩)⟩
  · rw [show σ3 1 12 = s by rw [o3 1 (by decide), h12], p6, p7]
    rw [if_neg (by omega), if_pos (decide_eq_true v1), if_neg (by omega), decide_eq_true v2, Bool.true_and] at R
    have r1 : r32 (α 8 (60 * k + (1 + 4 * (j : Int)))) := by constructor <;> omega
    have r2 : r32 (α 8 (60 * k + (1 + 4 * (j : Int) + 1))) := by constructor <;> omega
    have ej : (1 + 4 * (j : Int) + 1) = 2 + 4 * (j : Int) := by omega
    refine ⟨z.1, f3, c_pholds (m := j) z.2.1 (by rw [e1]; exact z.2.2.1) (by rw [e2]; exact z.2.2.2.1) f3 r1 r2 (by rw [o3 _ (by omega), hz]) (by omega) (fun i i0 i1 => ?_) ?_⟩
    · rw [e1, e2, o3 _ (by omega), o3 _ (by omega), (hx i i0 i1).1, (hx i i0 i1).2]; exact hr i i0 i1
    · rw [e1, e2, o3 _ (by omega), o3 _ (by omega), tkb_congr (f' := fun i => α 8 (60 * k + (1 + 4 * i))) (g' := fun i => α 8 (60 * k + (2 + 4 * i))) hx]
      rw [ej] at R ⊢
      show ((dupS α k j = false) → _) ∧ ((dupS α k j = true) → _)
      refine ⟨fun nd => ?_, fun nd => ?_⟩
      · rw [nd, if_pos (by rfl)] at R
        have cl3 : CL σ3 α := cl.fr (o3 3 (by decide)) (o3 4 (by decide)) (o3 5 (by decide)) rfl rfl rfl
        have e3 : 1 + 4 * (j : Int) + 2 = 3 + 4 * (j : Int) := by omega
        rw [show 2 + 4 * (j : Int) + 1 + 1 + 1 = 1 + 4 * ((j + 1 : Nat) : Int) by omega, show 2 + 4 * (j : Int) + 1 + 1 = 4 + 4 * (j : Int) by omega, show 2 + 4 * (j : Int) + 1 = 3 + 4 * (j : Int) by omega] at R
        refine ⟨f3, c_readNext f3 cl3 ok k0 k8 ke p3 p4 (by omega) (by constructor <;> omega) (by decide) (by decide) (fun t2 w1 w2 => ⟨fun _ => ?_, fun q => (by cases q)⟩) (fun q => ⟨fun q => (by cases q), fun _ => h0 _ (-6) (f3.upF la_2 8 (by decide +kernel)) (fun c hc => by rw [z_up_far _ _ _ hc]; exact o3 c hc) (z_up_same _ _ _ _) (by rw [R, if_pos (by omega)]) (by decide)⟩) (fun q1 q => ⟨fun q => (by cases q), fun _ => h0 _ (-4) (f3.upF la_2 8 (by decide +kernel)) (fun c hc => by rw [z_up_far _ _ _ hc]; exact o3 c hc) (z_up_same _ _ _ _) (by rw [e3] at q; rw [R, if_neg (by omega), decide_eq_false q]; rfl) (by decide)⟩)⟩
        rw [e3] at w1 w2 t2 ⊢
        rw [if_neg (by omega), if_pos (decide_eq_true ⟨w1, w2⟩)] at R
        obtain ⟨τ, hτ⟩ : ∃ τ : ZM, τ = z_up (z_up σ3 2 5 (α 8 (60 * k + (3 + 4 * (j : Int))))) 2 4 (3 + 4 * (j : Int) + 1) := ⟨_, rfl⟩
        rw [← hτ]
        have f : Fix τ := by rw [hτ]; exact (f3.upF la_2 5 (by decide +kernel)).upF la_2 4 (by decide +kernel)
        have o : ∀ c : Int, c ≠ 2 → τ c = σ c := fun c hc => by rw [hτ, z_up_far _ _ _ hc, z_up_far _ _ _ hc]; exact o3 c hc
        have q3 : τ 2 3 = k := by rw [hτ, z_up_ne _ (Or.inr (by decide)), z_up_ne _ (Or.inr (by decide)), p3]
        have q4 : τ 2 4 = 4 + 4 * (j : Int) := by rw [hτ, z_up_same]; omega
        have q5 : τ 2 5 = α 8 (60 * k + (3 + 4 * (j : Int))) := by rw [hτ, z_up_ne _ (Or.inr (by decide)), z_up_same]
        have q6 : τ 2 6 = α 8 (60 * k + (1 + 4 * (j : Int))) := by rw [hτ, z_up_ne _ (Or.inr (by decide)), z_up_ne _ (Or.inr (by decide)), p6]
        have q7 : τ 2 7 = α 8 (60 * k + (2 + 4 * (j : Int))) := by rw [hτ, z_up_ne _ (Or.inr (by decide)), z_up_ne _ (Or.inr (by decide)), p7, ej]
        have clt : CL τ α := cl.fr (o 3 (by decide)) (o 4 (by decide)) (o 5 (by decide)) rfl rfl rfl
        refine ⟨f, c_readNext f clt ok k0 k8 ke q3 q4 (by omega) (by constructor <;> omega) (by decide) (by decide) (fun t3 x1 x2 => ⟨fun _ => ?_, fun q => (by cases q)⟩) (fun q => ⟨fun q => (by cases q), fun _ => h0 _ (-6) (f.upF la_2 8 (by decide +kernel)) (fun c hc => by rw [z_up_far _ _ _ hc]; exact o c hc) (z_up_same _ _ _ _) (by rw [R, if_pos q]) (by decide)⟩) (fun q1 q => ⟨fun q => (by cases q), fun _ => h0 _ (-4) (f.upF la_2 8 (by decide +kernel)) (fun c hc => by rw [z_up_far _ _ _ hc]; exact o c hc) (z_up_same _ _ _ _) (by rw [R, if_neg (by omega), decide_eq_false q]; rfl) (by decide)⟩)⟩
        rw [if_neg (by omega), if_pos (decide_eq_true ⟨x1, x2⟩)] at R
        rw [q5]
        obtain ⟨μ, hμ⟩ : ∃ μ : ZM, μ = z_up (z_up τ 2 5 (α 8 (60 * k + (4 + 4 * (j : Int))))) 2 4 (4 + 4 * (j : Int) + 1) := ⟨_, rfl⟩
        rw [← hμ]
        have fm : Fix μ := by rw [hμ]; exact (f.upF la_2 5 (by decide +kernel)).upF la_2 4 (by decide +kernel)
        have om : ∀ c : Int, c ≠ 2 → μ c = σ c := fun c hc => by rw [hμ, z_up_far _ _ _ hc, z_up_far _ _ _ hc]; exact o c hc
        have m3 : μ 2 3 = k := by rw [hμ, z_up_ne _ (Or.inr (by decide)), z_up_ne _ (Or.inr (by decide)), q3]
        have m4 : μ 2 4 = 5 + 4 * (j : Int) := by rw [hμ, z_up_same]; omega
        have m5 : μ 2 5 = α 8 (60 * k + (4 + 4 * (j : Int))) := by rw [hμ, z_up_ne _ (Or.inr (by decide)), z_up_same]
        have m6 : μ 2 6 = α 8 (60 * k + (1 + 4 * (j : Int))) := by rw [hμ, z_up_ne _ (Or.inr (by decide)), z_up_ne _ (Or.inr (by decide)), q6]
        have m7 : μ 2 7 = α 8 (60 * k + (2 + 4 * (j : Int))) := by rw [hμ, z_up_ne _ (Or.inr (by decide)), z_up_ne _ (Or.inr (by decide)), q7]
        have m12 : μ 1 12 = s := by rw [om 1 (by decide), h12]
        have ms : μ (s + 1) 2 = j := by rw [om _ (by omega), hz]
        rw [m12, m6, m7, m5]
        refine ⟨fm, z.1, bk_X7_add z.1 ⟨fm, by rw [ms]; constructor <;> omega, fun q => absurd q (by omega), fun _ => bk_X6_add z.2.1 ⟨fm, by rw [ms]; constructor <;> omega, by rw [e1, z.2.2.1]; decide, fun q => ?_, fun q => ⟨by omega, by rw [e1, z.2.2.1]; show μ (s + 1) 2 < 8; omega, by rw [e2, z.2.2.2.1]; show μ (s + 1) 2 < 8; omega, ?_⟩⟩⟩⟩
        · rw [e1, z.2.2.1] at q
          have : (8 : Int) ≤ μ (s + 1) 2 := q
          omega
        · rw [e1, e2, ms]
          obtain ⟨ν, hν⟩ : ∃ ν : ZM, ν = z_up (z_up (z_up μ (s + 2) j (α 8 (60 * k + (1 + 4 * (j : Int))))) (s + 3) j (α 8 (60 * k + (2 + 4 * (j : Int))))) (s + 1) 2 ((j : Int) + 1) := ⟨_, rfl⟩
          rw [← hν]
          have fn : Fix ν := by rw [hν]; exact ((fm.upA z.2.2.1 (by decide)).upA z.2.2.2.1 (by decide)).upF z.2.1 2 (by decide +kernel)
          refine ⟨fn, by omega, by omega, ?_⟩
          refine h1 _ ((fn.upA z.2.2.2.2.1 (by decide)).upA z.2.2.2.2.2 (by decide)) (fun c c2 hc => ?_) ?_ ?_ ?_ ?_ ?_ ?_ ?_ r1 (by rw [← ej]; exact r2) R
          · rw [z_up_far _ _ _ (by omega), z_up_far _ _ _ (by omega), hν, z_up_far _ _ _ (by omega), z_up_far _ _ _ (by omega), z_up_far _ _ _ (by omega), om c c2]
          · rw [z_up_far _ _ _ (by omega), z_up_far _ _ _ (by omega), hν, z_up_far _ _ _ (by omega), z_up_far _ _ _ (by omega), z_up_far _ _ _ (by omega), m3]
          · rw [z_up_far _ _ _ (by omega), z_up_far _ _ _ (by omega), hν, z_up_far _ _ _ (by omega), z_up_far _ _ _ (by omega), z_up_far _ _ _ (by omega), m4]; omega
          · rw [z_up_far _ _ _ (by omega), z_up_far _ _ _ (by omega), hν, z_up_same]; rfl
          · rw [z_up_far _ _ _ (by omega), z_up_far _ _ _ (by omega), hν, z_up_far _ _ _ (by omega), z_up_far _ _ _ (by omega), z_up_row, om _ (by omega)]
          · rw [z_up_far _ _ _ (by omega), z_up_far _ _ _ (by omega), hν, z_up_far _ _ _ (by omega), z_up_row, z_up_far _ _ _ (by omega), om _ (by omega)]
          · rw [z_up_far _ _ _ (by omega), z_up_row, hν, z_up_far _ _ _ (by omega), z_up_far _ _ _ (by omega), z_up_far _ _ _ (by omega), om _ (by omega)]
          · rw [z_up_row, z_up_far _ _ _ (by omega), hν, z_up_far _ _ _ (by omega), z_up_far _ _ _ (by omega), z_up_far _ _ _ (by omega), om _ (by omega)]
      · rw [nd, if_neg (by decide)] at R
        exact ⟨f3, h0 _ (-4) (f3.upF la_2 8 (by decide +kernel)) (fun c hc => by rw [z_up_far _ _ _ hc]; exact o3 c hc) (z_up_same _ _ _ _) R (by decide)⟩
  · rw [R]
    rcases he with ⟨he, a | ⟨a, b, c⟩⟩ | ⟨he, ⟨a, b⟩ | ⟨a, b, c⟩⟩
    · rw [if_pos a, he]
    · rw [if_neg (by omega), if_pos (decide_eq_true b), if_pos c, he]
    · rw [if_neg (by omega), decide_eq_false b, he]; rfl
    · rw [if_neg (by omega), if_pos (decide_eq_true b), if_neg (by omega), decide_eq_false c, he]; rfl
  · rcases he with ⟨he, _⟩ | ⟨he, _⟩ <;> omega
