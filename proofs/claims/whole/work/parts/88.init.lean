theorem z_new_s (σ : ZM) (a : Int) : z_new σ a a = fun _ => 0 := by funext i; unfold z_new; rw [if_pos rfl]
theorem z_new_n (σ : ZM) {a c : Int} (h : c ≠ a) : z_new σ a c = σ c := by funext i; unfold z_new; rw [if_neg h]
/-- a new whole number -/
def P9 (σ : ZM) (a : Int) : Prop := σ a = fu (fun _ => 0) 0 (a + 1) ∧ σ (a + 1) = fun _ => 0
theorem P9.fr {σ σ' : ZM} {a : Int} (h : P9 σ a) (h1 : σ' a = σ a) (h2 : σ' (a + 1) = σ (a + 1)) : P9 σ' a := by unfold P9 at h ⊢; rw [h1, h2]; exact h
theorem P9.f0 {σ : ZM} {a : Int} (h : P9 σ a) : σ a 0 = a + 1 := by rw [h.1, fu_s]
theorem P9.wf {σ : ZM} {a : Int} (h : P9 σ a) : WF σ a ∧ wv σ a = 0 := by
  have e1 : σ a 1 = 0 := by rw [h.1, fu_n _ _ (by decide)]
  have e2 : σ a 2 = 0 := by rw [h.1, fu_n _ _ (by decide)]
  refine ⟨?_, ?_⟩
  · unfold WF
    rw [e1, e2, h.2]
    exact ⟨Int.le_refl _, by decide, fun i _ _ => ⟨Int.le_refl _, by show (0 : Int) < 1000000000; decide⟩, fun _ _ _ => rfl, fun q => absurd q (by decide), Or.inr (Or.inl rfl), ⟨fun _ => rfl, fun _ => rfl⟩⟩
  · unfold wv
    rw [e2, Int.zero_mul]
theorem i_9 {X : ZS} {n : Nat} {σ : ZM} {T : ZM → Prop} (hp : z_l (n : Int) = (9, 3)) (hz : σ (n : Int) = fun _ => 0) (h : ∀ σ', (∀ c : Int, c < n → σ' c = σ c) → P9 σ' n → T σ') : ZC X (rX9_init (n + 1)) mX9_init [(2, (n : Int))] n σ (zQv T) := by
  refine bk_X9_init hp ⟨zo_9_0 hp, Nat.le_refl _, by omega, rfl, h _ (fun c hc => ?_) ⟨?_, ?_⟩⟩
  · rw [z_up_far _ _ _ (by omega), z_new_n _ (by omega)]
  · rw [z_up_row, z_new_n _ (by omega), hz]; rfl
  · rw [z_up_far _ _ _ (by omega)]; exact z_new_s _ _
theorem i_1 {X : ZS} {n : Nat} {σ : ZM} {T : ZM → Prop} (hp : z_l (n : Int) = (1, 4)) (h : ∀ σ', (∀ c : Int, c < n → σ' c = σ c) → σ' (n : Int) 0 = (n : Int) + 1 → σ' (n : Int) 1 = (n : Int) + 2 → T σ') : ZC X (rX1_init (n + 2)) mX1_init [(2, (n : Int))] n σ (zQv T) := by
  refine bk_X1_init hp ⟨zo_1_0 hp, by omega, by omega, zo_1_1 hp, Nat.le_refl _, by omega, rfl, h _ (fun c hc => ?_) ?_ ?_⟩
  · rw [z_up_far _ _ _ (by omega), z_new_n _ (by omega), z_up_far _ _ _ (by omega), z_new_n _ (by omega)]
  · rw [z_up_ne _ (Or.inr (by decide)), z_new_n _ (by omega), z_up_same]; rfl
  · rw [z_up_same]; rfl
def P3 (σ : ZM) (p : Int) : Prop := (σ p 0 = p + 1 ∧ σ p 1 = p + 3) ∧ P9 σ (p + 1) ∧ σ (p + 3) 0 = p + 4 ∧ WF σ (p + 3) ∧ wv σ (p + 3) = 1
theorem P3.fr {σ σ' : ZM} {p : Int} (h : P3 σ p) (o : ∀ c : Int, p ≤ c → c ≤ p + 4 → σ' c = σ c) : P3 σ' p := by
  refine ⟨by rw [o p (by omega) (by omega)]; exact h.1, h.2.1.fr (o _ (by omega) (by omega)) (o _ (by omega) (by omega)), by rw [o _ (by omega) (by omega)]; exact h.2.2.1, wf_fr (o _ (by omega) (by omega)) (o _ (by omega) (by omega)) h.2.2.2.1, ?_⟩
  rw [wv_fr (o _ (by omega) (by omega)) (o _ (by omega) (by omega))]; exact h.2.2.2.2
theorem i_3 {X : ZS} {n : Nat} {σ : ZM} {T : ZM → Prop} (hp : z_l (n : Int) = (3, 2)) (h : ∀ σ', (∀ c : Int, c < n → σ' c = σ c) → P3 σ' n → T σ') : ZC X (rX3_init (n + 4)) mX3_init [(2, (n : Int))] n σ (zQv T) := by
  have l1 : z_l ((n + 1 : Nat) : Int) = (9, 3) := zo_3_0 hp
  have l3 : z_l ((n + 3 : Nat) : Int) = (9, 3) := zo_3_1 hp
  refine bk_X3_init hp ⟨l1, by omega, by omega, by omega, i_9 (n := n + 1) l1 (z_new_s _ _) (fun σ6 o6 p6 => ⟨by omega, l3, by omega, by omega, by omega, i_9 (n := n + 1 + 1 + 1) l3 (z_new_s _ _) (fun σ14 o14 p14 => ⟨by omega, ?_, by omega, ?_⟩)⟩)⟩
  · rw [z_up_same]; rfl
  · have far : ∀ c : Int, c < (n + 3 : Nat) → c ≠ n → (z_up σ14 (n : Int) 1 ((n + 1 + 1 + 1 : Nat) : Int)) c = σ6 c := fun c h1 h2 => by
      rw [z_up_far _ _ _ h2, o14 c (by omega), z_new_n _ (by omega), z_up_far _ _ _ h2]
    have pb : P9 (z_up σ14 (n : Int) 1 ((n + 1 + 1 + 1 : Nat) : Int)) ((n : Int) + 3) := p14.fr (by rw [z_up_far _ _ _ (by omega)]) (by rw [z_up_far _ _ _ (by omega)])
    have w := pb.wf
    refine c_put (a := (n : Int) + 3) l3 (by omega) pb.f0 w.1.1 w.1.2.1 w.1.2.2.2.1 (by decide) (by decide) (fun σ20 o20 w20 v20 => ⟨rfl, h σ20 (fun c hc => ?_) ⟨⟨?_, ?_⟩, ?_, ?_, w20, v20⟩⟩)
    · funext i
      rw [o20 c i (by omega) (by omega), z_up_far _ _ _ (by omega), o14 c (by omega), z_new_n _ (by omega), z_up_far _ _ _ (by omega), o6 c (by omega), z_new_n _ (by omega)]
    · rw [o20 _ _ (by omega) (by omega), z_up_ne _ (Or.inr (by decide)), o14 _ (by omega), z_new_n _ (by omega), z_up_same]; rfl
    · rw [o20 _ _ (by omega) (by omega), z_up_same]; rfl
    · refine p6.fr ?_ ?_
      · funext i; rw [o20 _ i (by omega) (by omega), far _ (by omega) (by omega)]
      · funext i; rw [o20 _ i (by omega) (by omega), far _ (by omega) (by omega)]
    · rw [o20 _ _ (by omega) (by omega)]; exact pb.f0.trans (by omega)
theorem i_6 {X : ZS} {n : Nat} {σ : ZM} {T : ZM → Prop} {x : Int} (m : Nat) (hm : x = m) (m8 : m ≤ 8) (hp : z_l (n : Int) = (6, 3)) (hz : σ (n : Int) = fun _ => 0) (l1 : z_l ((n + 1 : Nat) : Int) = (20, m)) (l2 : z_l ((n + 2 : Nat) : Int) = (20, m)) (h : ∀ σ', (∀ c : Int, c < n → σ' c = σ c) → σ' (n : Int) 0 = (n : Int) + 1 → σ' (n : Int) 1 = (n : Int) + 2 → σ' (n : Int) 2 = 0 → T σ') : ZC X (rX6_init (n + 2)) mX6_init [(2, (n : Int)), (0, x)] n σ (zQv T) := by
  have e : (max 0 x).toNat = m := by omega
  refine bk_X6_init hp ?_
  rw [e]
  refine ⟨by constructor <;> omega, by omega, l1, by omega, by omega, by omega, l2, Nat.le_refl _, by omega, rfl, h _ (fun c hc => ?_) ?_ ?_ ?_⟩
  · rw [z_up_far _ _ _ (by omega), z_new_n _ (by omega), z_up_far _ _ _ (by omega), z_new_n _ (by omega)]
  · rw [z_up_ne _ (Or.inr (by decide)), z_new_n _ (by omega), z_up_same]; rfl
  · rw [z_up_same]; rfl
  · rw [z_up_ne _ (Or.inr (by decide)), z_new_n _ (by omega), z_up_ne _ (Or.inr (by decide)), z_new_n _ (by omega), hz]
def P7 (σ : ZM) (p : Int) : Prop := (σ p 0 = p + 1 ∧ σ p 1 = p + 4 ∧ σ p 2 = p + 5) ∧ σ (p + 1) 0 = p + 2 ∧ σ (p + 1) 1 = p + 3 ∧ σ (p + 1) 2 = 0
theorem P7.fr {σ σ' : ZM} {p : Int} (h : P7 σ p) (o : ∀ c : Int, p ≤ c → c ≤ p + 1 → σ' c = σ c) : P7 σ' p := by
  unfold P7 at h ⊢; rw [o p (by omega) (by omega), o (p + 1) (by omega) (by omega)]; exact h
theorem i_7 {X : ZS} {n : Nat} {σ : ZM} {T : ZM → Prop} (hp : z_l (n : Int) = (7, 3)) (l1 : z_l ((n + 1 : Nat) : Int) = (6, 3)) (l2 : z_l ((n + 2 : Nat) : Int) = (20, 8)) (l3 : z_l ((n + 3 : Nat) : Int) = (20, 8)) (l4 : z_l ((n + 4 : Nat) : Int) = (20, 8)) (l5 : z_l ((n + 5 : Nat) : Int) = (20, 8)) (h : ∀ σ', (∀ c : Int, c < n → σ' c = σ c) → P7 σ' n → T σ') : ZC X (rX7_init (n + 5)) mX7_init [(2, (n : Int))] n σ (zQv T) := by
  refine bk_X7_init hp ⟨l1, by omega, by omega, by omega, i_6 (n := n + 1) 8 rfl (by decide) l1 (z_new_s _ _) l2 l3 (fun σ6 o6 a0 a1 a2 => ⟨by omega, l4, by omega, by omega, l5, by omega, by omega, rfl, h _ (fun c hc => ?_) ⟨⟨?_, ?_, ?_⟩, ?_, ?_, ?_⟩⟩)⟩
  · rw [z_up_far _ _ _ (by omega), z_new_n _ (by omega), z_up_far _ _ _ (by omega), z_new_n _ (by omega), z_up_far _ _ _ (by omega), o6 c (by omega), z_new_n _ (by omega)]
  · rw [z_up_ne _ (Or.inr (by decide)), z_new_n _ (by omega), z_up_ne _ (Or.inr (by decide)), z_new_n _ (by omega), z_up_same]; rfl
  · rw [z_up_ne _ (Or.inr (by decide)), z_new_n _ (by omega), z_up_same]; rfl
  · rw [z_up_same]; rfl
  · rw [z_up_far _ _ _ (by omega), z_new_n _ (by omega), z_up_far _ _ _ (by omega), z_new_n _ (by omega), z_up_far _ _ _ (by omega)]; exact a0.trans (by omega)
  · rw [z_up_far _ _ _ (by omega), z_new_n _ (by omega), z_up_far _ _ _ (by omega), z_new_n _ (by omega), z_up_far _ _ _ (by omega)]; exact a1.trans (by omega)
  · rw [z_up_far _ _ _ (by omega), z_new_n _ (by omega), z_up_far _ _ _ (by omega), z_new_n _ (by omega), z_up_far _ _ _ (by omega)]; exact a2
theorem i_8 {X : ZS} {σ : ZM} {T : ZM → Prop} (h : ∀ σ', (∀ c : Int, c < 2 → σ' c = σ c) → (σ' 2 0 = 3 ∧ σ' 2 1 = 4 ∧ σ' 2 2 = 5) → (∀ k : Int, 0 ≤ k → k < 8 → σ' 5 k = -1) → T σ') : ZC X (rX8_init 5) mX8_init [(2, 2)] 2 σ (zQv T) := by
  refine bk_X8_init (n := 2) (n1 := 5) la_2 ⟨la_3, by decide, by decide, la_4, by decide, by decide, la_5, by decide, by decide, ?_⟩
  obtain ⟨τ0, hτ0⟩ : ∃ τ0 : ZM, τ0 = z_up (z_new (z_up (z_new (z_up (z_new σ 3) 2 0 3) 4) 2 1 4) 5) 2 2 5 := ⟨_, rfl⟩
  have loop : ∀ (l i : Nat) (τ : ZM), i + l = 8 → (∀ c : Int, c < 5 → τ c = τ0 c) → (∀ k : Int, 0 ≤ k → k < i → τ 5 k = -1) → Z X (rX8_init 5) mX8_init 31 [(2, 2), (0, (i : Int))] [] 5 τ (zQv T) := by
    intro l
    induction l with
    | zero =>
      intro i τ hi o v
      have : i = 8 := by omega
      subst this
      refine bk_X8_init_31 la_2 ⟨by decide, fun _ => ⟨rfl, h τ (fun c hc => ?_) ⟨?_, ?_, ?_⟩ v⟩, fun q => absurd (by decide) q⟩
      · rw [o c (by omega), hτ0, z_up_far _ _ _ (by omega), z_new_n _ (by omega), z_up_far _ _ _ (by omega), z_new_n _ (by omega), z_up_far _ _ _ (by omega), z_new_n _ (by omega)]
      · rw [o 2 (by decide), hτ0, z_up_ne _ (Or.inr (by decide)), z_new_n _ (by decide), z_up_ne _ (Or.inr (by decide)), z_new_n _ (by decide), z_up_same]
      · rw [o 2 (by decide), hτ0, z_up_ne _ (Or.inr (by decide)), z_new_n _ (by decide), z_up_same]
      · rw [o 2 (by decide), hτ0, z_up_same]
    | succ l ih =>
      intro i τ hi o v
      refine bk_X8_init_31 la_2 ⟨by constructor <;> omega, fun q => absurd q (by omega), fun _ => ⟨by decide, ?_, by decide, by omega, by omega, ?_⟩⟩
      · rw [o 2 (by decide), hτ0, z_up_same]; rfl
      · refine ih (i + 1) _ (by omega) (fun c hc => by rw [z_up_far _ _ _ (by omega)]; exact o c hc) (fun k k0 k1 => ?_)
        show z_up τ 5 (i : Int) (-1) 5 k = -1
        rw [z_up_row]
        by_cases q : k = i
        · subst q; rw [fu_s]
        · rw [fu_n _ _ q]; exact v k k0 (by omega)
  have L := loop 8 0 τ0 rfl (fun _ _ => rfl) (fun k _ _ => by omega)
  rw [hτ0] at L
  exact L
