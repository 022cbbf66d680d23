def Gx (α : ZM) (l x : Int) (s t : Nat) : Int := α 5 (81 * l + wy α s t) - (if x ≠ 0 ∧ s = t then α 4 s else 0)
def rho (α : ZM) (l : Int) (f g : Int → Int) (q : Nat) (s : Nat) : Int := sm (fun j => α 5 (81 * l + wyp (α 1 s) (α 2 s) (f j) (g j))) q
theorem wy_self (α : ZM) (s : Int) : wy α s s = 0 := by unfold wy wyp; omega
theorem wy_comm (α : ZM) (s t : Int) : wy α s t = wy α t s := by unfold wy wyp; omega
theorem Gx_r {α : ZM} {l x : Int} {s t : Nat} (ok : Ok α) (l0 : 0 ≤ l) (l1 : l < α 0 1) (hs : (s : Int) < α 0 0) (ht : (t : Int) < α 0 0) : -100 ≤ Gx α l x s t ∧ Gx α l x s t ≤ 16000 := by
  have w := wy_r ok (i := s) (j := t) (by omega) hs (by omega) ht
  have a := (ok.w l _ l0 l1 w.1 w.2).1
  have b := (ok.g s (by omega) hs).2.2.2
  unfold Gx
  split <;> omega
theorem Gx_comm (α : ZM) (l x : Int) (s t : Nat) : Gx α l x s t = Gx α l x t s := by
  unfold Gx
  rw [wy_comm]
  by_cases h : s = t
  · subst h; rfl
  · rw [if_neg (fun q => h q.2), if_neg (fun q => h q.2.symm)]
theorem rho_r {α : ZM} {l : Int} {f g : Int → Int} {q : Nat} {s : Nat} (ok : Ok α) (l0 : 0 ≤ l) (l1 : l < α 0 1) (hs : (s : Int) < α 0 0) (hq : ∀ i : Int, 0 ≤ i → i < q → (-20 ≤ f i ∧ f i ≤ 20) ∧ (-20 ≤ g i ∧ g i ≤ 20)) (j : Nat) (hj : j ≤ q) : 0 ≤ rho α l f g j s ∧ rho α l f g j s ≤ j * 16000 := by
  have b := ok.g s (by omega) hs
  exact sm_rng (by decide) (fun i hi => by
    have qi := hq i (by omega) (by omega)
    have w := wyp_r b.1 b.2.1 qi.1 qi.2
    exact (ok.w l _ l0 l1 w.1 w.2).1)
/-- the chosen ones, in an order -/
def CD (σ α : ZM) (k : Nat) (d : Nat → Nat) : Prop := σ 11 4 = k ∧ k ≤ 8 ∧ (∀ a, a < k → σ 12 (a : Int) = (d a : Nat) ∧ ((d a : Nat) : Int) < α 0 0) ∧ ∀ a b, a < k → b < k → d a = d b → a = b
theorem CD.fr {σ σ' α : ZM} {k : Nat} {d : Nat → Nat} (h : CD σ α k d) (h4 : σ' 11 4 = σ 11 4) (h12 : σ' 12 = σ 12) : CD σ' α k d := by
  unfold CD at h ⊢; rw [h4, h12]; exact h
theorem c_measure {X : ZS} {σ α : ZM} {T : ZM → Prop} {l x : Int} {k : Nat} {d : Nat → Nat} (cs : CS σ α) (ok : Ok α) (l0 : 0 ≤ l) (l1 : l < α 0 1) (hx : x = 0 ∨ x = 1) (cd : CD σ α k d)
    (h : ∀ σ', CS σ' α → Ou 13 13 σ σ' → (∀ i j : Nat, i < k → j < k → σ' 13 ((i : Int) * 8 + j) = Gx α l x (d i) (d j)) → T σ') : ZC X (rX2_measure zN) mX2_measure [(2, 11), (2, σ 1 11), (2, 6), (0, l), (0, x)] zN σ (zQv T) := by
  have s8 := ok.s
  have zz := (cs.2.2.1.pl ok).1
  obtain ⟨s, hs⟩ : ∃ s, s = σ 1 11 := ⟨_, rfl⟩
  rw [← hs] at zz ⊢
  have k8 := cd.2.1
  have pre : ∀ {τ : ZM}, Fix τ → Ou 13 13 σ τ → CS τ α ∧ CD τ α k d ∧ τ 1 11 = s := fun {τ} f o => by
    have g1 := cs.2.2.1.1
    refine ⟨cs.tmp (cs.1.fr f (fun c _ _ _ => o c (by omega))) (fun c hc => o c (by omega)), cd.fr (by rw [o 11 (by decide)]) (o 12 (by decide)), by rw [o 1 (by decide), hs]⟩
  have hG : ∀ i j : Nat, i ≠ j → i < k → j < k → Gx α l x (d i) (d j) = α 5 (81 * l + wy α (d i) (d j)) := fun i j hij hi hj => by
    unfold Gx
    rw [if_neg (fun q => hij (cd.2.2.2 i j hi hj q.2)), Int.sub_zero]
  have outer : ∀ (r i : Nat) (τ : ZM), i + r = k → Fix τ → Ou 13 13 σ τ → (∀ a b : Nat, a < i → b < k → τ 13 ((a : Int) * 8 + b) = Gx α l x (d a) (d b)) → Z X (rX2_measure zN) mX2_measure 3 [(2, 11), (2, s), (2, 6), (0, l), (0, x), (0, (i : Int)), (9, 0), (9, 0)] [] zN τ (zQv T) := by
    intro r
    induction r with
    | zero =>
      intro i τ hi f o v
      obtain ⟨c, c2, t11⟩ := pre f o
      have : i = k := by omega
      subst this
      exact bk_X2_measure_3 zz ⟨by constructor <;> omega, by rw [c2.1]; constructor <;> omega, fun _ => h τ c o v, fun q => absurd (by rw [c2.1]; exact Int.le_refl _) q⟩
    | succ r ih =>
      intro i τ hi f o v
      obtain ⟨c, c2, t11⟩ := pre f o
      have inner : ∀ (e j : Nat) (τ : ZM), j + e = k → Fix τ → Ou 13 13 σ τ → (∀ a b : Nat, a < i → b < k → τ 13 ((a : Int) * 8 + b) = Gx α l x (d a) (d b)) → (∀ b : Nat, b < j → τ 13 ((i : Int) * 8 + b) = α 5 (81 * l + wy α (d i) (d b))) → Z X (rX2_measure zN) mX2_measure 15 [(2, 11), (2, s), (2, 6), (0, l), (0, x), (0, (i : Int)), (0, (j : Int)), (9, 0)] [] zN τ (zQv T) := by
        intro e
        induction e with
        | zero =>
          intro j τ hj f o v vi
          obtain ⟨c, c2, t11⟩ := pre f o
          have : j = k := by omega
          subst this
          have di := c2.2.2.1 i (by omega)
          refine bk_X2_measure_15 zz ⟨by constructor <;> omega, by rw [c2.1]; constructor <;> omega, fun _ => ⟨by constructor <;> omega, fun x0 => ?_, fun x1 => ?_⟩, fun q => absurd (by rw [c2.1]; exact Int.le_refl _) q⟩
          · refine ih (i + 1) τ (by omega) f o (fun a b ha hb => ?_)
            by_cases q : a = i
            · subst q
              rw [vi b hb]; unfold Gx; rw [if_neg (fun w => w.1 x0), Int.sub_zero]
            · exact v a b (by omega) hb
          · rw [di.1]
            refine ⟨f, by omega, by omega, by omega, by omega, by omega, by omega, ?_⟩
            have g5 := (c.2.2.1.2.2 (d i : Nat) (by omega) di.2).2.2.2
            rw [t11] at g5
            rw [g5]
            refine ih (i + 1) _ (by omega) (f.upA la_13 (by decide)) (o.up (by decide) (by decide)) (fun a b ha hb => ?_)
            rw [z_up_row]
            by_cases q : a = i
            · subst q
              by_cases q2 : b = a
              · subst q2
                rw [fu_s]; unfold Gx
                rw [if_pos ⟨x1, rfl⟩, wy_self, (ok.w l 0 l0 l1 (by decide) (by decide)).2 rfl]; omega
              · rw [fu_n _ _ (by omega), vi b hb, hG a b (by omega) (by omega) hb]
            · rw [fu_n _ _ (by omega)]; exact v a b (by omega) hb
        | succ e ih2 =>
          intro j τ hj f o v vi
          obtain ⟨c, c2, t11⟩ := pre f o
          have di := c2.2.2.1 i (by omega)
          have dj := c2.2.2.1 j (by omega)
          have pl := (c.2.2.1.pl ok).2
          rw [t11] at pl
          have w := wy_r ok (i := (d i : Nat)) (j := (d j : Nat)) (by omega) di.2 (by omega) dj.2
          refine bk_X2_measure_15 zz ⟨by constructor <;> omega, by rw [c2.1]; constructor <;> omega, fun q => absurd q (by rw [c2.1]; omega), fun _ => ⟨f, by omega, by omega, by omega, by omega, ?_⟩⟩
          rw [di.1, dj.1]
          refine c_way pl f (by omega) (by omega) (by omega) (by omega) ⟨f, c_tell l0 l1 w.1 w.2 f c.2.2.2.1 ok ⟨by omega, by omega, ?_⟩⟩
          refine ih2 (j + 1) _ (by omega) (f.upA la_13 (by decide)) (o.up (by decide) (by decide)) (fun a b ha hb => ?_) (fun b hb => ?_)
          · rw [z_up_row, fu_n _ _ (by omega)]; exact v a b ha hb
          · rw [z_up_row]
            by_cases q : b = j
            · subst q; rw [fu_s]; rfl
            · rw [fu_n _ _ (by omega)]; exact vi b (by omega)
      exact bk_X2_measure_3 zz ⟨by constructor <;> omega, by rw [c2.1]; constructor <;> omega, fun q => absurd q (by rw [c2.1]; omega), fun _ => inner k 0 τ (by omega) f o v (fun b hb => by omega)⟩
  exact bk_X2_measure zz (outer k 0 σ (by omega) cs.fix Ou.rfl' (fun a b ha _ => by omega))
theorem PL.fr {σ σ' : ZM} {p : Int} {n m : Nat} {f g : Int → Int} (h : PL σ p n m f g) (e0 : σ' p = σ p) (e1 : σ' (p + 1) = σ (p + 1)) (e2 : σ' (p + 2) = σ (p + 2)) : PL σ' p n m f g := by
  unfold PL at h ⊢; rw [e0, e1, e2]; exact h
theorem c_reachOut {X : ZS} {σ α : ZM} {T : ZM → Prop} {l : Int} {k q : Nat} {d : Nat → Nat} {f g : Int → Int} (cs : CS σ α) (ok : Ok α) (l0 : 0 ≤ l) (l1 : l < α 0 1) (cd : CD σ α k d) (Q : PL σ 8 6 q f g)
    (h : ∀ σ', CS σ' α → (∀ c i : Int, c ≠ 14 → ¬ (c = 11 ∧ i = 5) → σ' c i = σ c i) → σ' 11 5 = q → (∀ i : Nat, i < k → σ' 14 (i : Int) = rho α l f g q (d i)) → T σ') : ZC X (rX2_reachOut zN) mX2_reachOut [(2, 11), (2, σ 1 11 + 1), (2, 8), (2, 6), (0, l)] zN σ (zQv T) := by
  have s8 := ok.s
  have pl0 := (cs.2.2.1.pl ok).2
  have zz := pl0.1
  obtain ⟨s, hs⟩ : ∃ s, s = σ 1 11 := ⟨_, rfl⟩
  rw [← hs] at zz ⊢
  have k8 := cd.2.1
  have q6 : q ≤ 6 := Q.2.2.2.2.1
  have pre : ∀ {τ : ZM}, Fix τ → (∀ c i : Int, c ≠ 14 → ¬ (c = 11 ∧ i = 5) → τ c i = σ c i) → CS τ α ∧ CD τ α k d ∧ τ 1 11 = s ∧ PL τ 8 6 q f g := fun {τ} ft o => by
    have g1 := cs.2.2.1.1
    have o2 : ∀ c : Int, c ≠ 14 → c ≠ 11 → τ c = σ c := fun c c1 c2 => by funext i; exact o c i c1 (fun w => c2 w.1)
    exact ⟨cs.tmp (cs.1.fr ft (fun c _ _ _ => o2 c (by omega) (by omega))) (fun c hc => o2 c (by omega) (by omega)), cd.fr (o 11 4 (by decide) (by decide)) (o2 12 (by decide) (by decide)), by rw [o2 1 (by decide) (by decide), hs], Q.fr (o2 8 (by decide) (by decide)) (o2 9 (by decide) (by decide)) (o2 10 (by decide) (by decide))⟩
  have hq : ∀ i : Int, 0 ≤ i → i < q → (-20 ≤ f i ∧ f i ≤ 20) ∧ (-20 ≤ g i ∧ g i ≤ 20) := fun i i0 i1 => (Q.2.2.2.2.2.2 i i0 i1).2.2
  have outer : ∀ (r i : Nat) (τ : ZM), i + r = k → Fix τ → (∀ c i : Int, c ≠ 14 → ¬ (c = 11 ∧ i = 5) → τ c i = σ c i) → τ 11 5 = q → (∀ a : Nat, a < i → τ 14 (a : Int) = rho α l f g q (d a)) → Z X (rX2_reachOut zN) mX2_reachOut 11 [(2, 11), (2, s + 1), (2, 8), (2, 6), (0, l), (0, (i : Int)), (9, 0), (9, 0)] [] zN τ (zQv T) := by
    intro r
    induction r with
    | zero =>
      intro i τ hi ft o t5 v
      obtain ⟨c, c2, t11, Qt⟩ := pre ft o
      have : i = k := by omega
      subst this
      exact bk_X2_reachOut_11 zz la_8 ⟨by constructor <;> omega, by rw [c2.1]; constructor <;> omega, fun _ => h τ c o t5 v, fun q => absurd (by rw [c2.1]; exact Int.le_refl _) q⟩
    | succ r ih =>
      intro i τ hi ft o t5 v
      obtain ⟨c, c2, t11, Qt⟩ := pre ft o
      have inner : ∀ (e j : Nat) (τ : ZM), j + e = q → Fix τ → (∀ c i : Int, c ≠ 14 → ¬ (c = 11 ∧ i = 5) → τ c i = σ c i) → τ 11 5 = q → (∀ a : Nat, a < i → τ 14 (a : Int) = rho α l f g q (d a)) → τ 14 (i : Int) = rho α l f g j (d i) → Z X (rX2_reachOut zN) mX2_reachOut 31 [(2, 11), (2, s + 1), (2, 8), (2, 6), (0, l), (0, (i : Int)), (0, (j : Int)), (9, 0)] [] zN τ (zQv T) := by
        intro e
        induction e with
        | zero =>
          intro j τ hj ft o t5 v vi
          obtain ⟨c, c2, t11, Qt⟩ := pre ft o
          have : j = q := by omega
          subst this
          refine bk_X2_reachOut_31 zz la_8 ⟨by constructor <;> omega, by rw [Qt.2.2.2.1]; constructor <;> omega, fun _ => ih (i + 1) τ (by omega) ft o t5 (fun a ha => ?_), fun q => absurd (by rw [Qt.2.2.2.1]; exact Int.le_refl _) q⟩
          by_cases w : a = i
          · subst w; exact vi
          · exact v a (by omega)
        | succ e ih2 =>
          intro j τ hj ft o t5 v vi
          obtain ⟨c, c2, t11, Qt⟩ := pre ft o
          have di := c2.2.2.1 i (by omega)
          have gi := ok.g (d i : Nat) (by omega) di.2
          have qj := Qt.2.2.2.2.2.2 j (by omega) (by omega)
          have pl := (c.2.2.1.pl ok).2
          rw [t11] at pl
          have w := wyp_r gi.1 gi.2.1 qj.2.2.1 qj.2.2.2
          refine bk_X2_reachOut_31 zz la_8 ⟨by constructor <;> omega, by rw [Qt.2.2.2.1]; constructor <;> omega, fun q => absurd q (by rw [Qt.2.2.2.1]; omega), fun _ => ⟨ft, by omega, by omega, by omega, by rw [Qt.2.1]; show (j : Int) < (6 : Int); omega, by rw [Qt.2.2.1]; show (j : Int) < (6 : Int); omega, ?_⟩⟩
          rw [di.1, qj.1, qj.2.1]
          refine c_wayTo pl ft (by omega) (by omega) qj.2.2.1 qj.2.2.2 ⟨ft, c_tell l0 l1 w.1 w.2 ft c.2.2.2.1 ok ?_⟩
          refine ih2 (j + 1) _ (by omega) (ft.upA la_14 (by decide)) (fun c' i' h1 h2 => by rw [z_up_far _ _ _ h1]; exact o c' i' h1 h2) (by rw [z_up_far _ _ _ (by decide)]; exact t5) (fun a ha => ?_) ?_
          · rw [z_up_row, fu_n _ _ (by omega)]; exact v a ha
          · rw [z_up_row, fu_s, vi]; rfl
      refine bk_X2_reachOut_11 zz la_8 ⟨by constructor <;> omega, by rw [c2.1]; constructor <;> omega, fun q => absurd q (by rw [c2.1]; omega), fun _ => ⟨ft, by omega, by omega, ?_⟩⟩
      refine inner q 0 _ (by omega) (ft.upA la_14 (by decide)) (fun c' i' h1 h2 => by rw [z_up_far _ _ _ h1]; exact o c' i' h1 h2) (by rw [z_up_far _ _ _ (by decide)]; exact t5) (fun a ha => ?_) ?_
      · rw [z_up_row, fu_n _ _ (by omega)]; exact v a ha
      · rw [z_up_row, fu_s]; rfl
  refine bk_X2_reachOut zz la_8 (outer k 0 _ (by omega) (cs.fix.upF la_11 5 (by decide +kernel)) (fun c i h1 h2 => z_up_ne _ (by omega)) ?_ (fun a ha => by omega))
  rw [z_up_same, Q.2.2.2.1]
theorem w_gput {X : ZS} {σ : ZM} {T : ZM → Prop} {w : Int → Int} {i j : Nat} {v : Int} (hi : i < 7) (hj : j < 8) (hg : GP (σ 17)) (h : WN σ w) (hv : r32 v) (hT : ∀ σ', Ou 29 140 σ σ' → WN σ' (fu w (σ 17 ((i : Int) * 8 + j)) v) → T σ') : ZC X (rX4_put zN) mX4_put [(2, 16), (0, (i : Int)), (0, (j : Int)), (1, v)] zN σ (zQv T) := by
  have lp := hg.at (i := i) (j := j) hi hj
  refine bk_X4_put (c_cell hi hj h.1 ⟨lp.1, w_put lp.1 h (r64_of32 hv) (by have := hv.1; omega) (fun σ' o' n' => hT σ' (Ou.ofW o' lp.2.1 (by omega)) n')⟩)
theorem c_fillSquare {X : ZS} {σ α : ZM} {T : ZM → Prop} {w : Int → Int} {k : Nat} {A : Nat → Nat → Int} (k8 : k ≤ 8) (hk : σ 11 4 = k) (hg : GP (σ 17)) (hn : WN σ w) (hA : ∀ i j : Nat, i < k → j < k → σ 13 ((i : Int) * 8 + j) = A i j) (hr : ∀ i j : Nat, i < k → j < k → -20000 ≤ A i j ∧ A i j ≤ 20000)
    (h : ∀ σ' w', Ou 29 140 σ σ' → WN σ' w' → (∀ i j : Nat, i + 1 < k → j + 1 < k → w' (σ 17 ((i : Int) * 8 + j)) = A (i + 1) 0 + A 0 (j + 1) - A (i + 1) (j + 1) - A 0 0) → T σ') : ZC X (rX2_fillSquare zN) mX2_fillSquare [(2, 11), (2, 16)] zN σ (zQv T) := by
  obtain ⟨G, hG⟩ : ∃ G : Int → Int, G = σ 17 := ⟨_, rfl⟩
  rw [← hG] at hg h
  have A0 : ∀ {τ : ZM}, Ou 29 140 σ τ → ∀ i j : Nat, i < k → j < k → τ 13 ((i : Int) * 8 + j) = A i j := fun {τ} o i j hi hj => by rw [o 13 (by decide)]; exact hA i j hi hj
  have outer : ∀ (r i : Nat) (τ : ZM) (w' : Int → Int), i + 1 + r = k ∨ k = 0 → Ou 29 140 σ τ → WN τ w' → (∀ a b : Nat, a < i → b + 1 < k → w' (G ((a : Int) * 8 + b)) = A (a + 1) 0 + A 0 (b + 1) - A (a + 1) (b + 1) - A 0 0) → (k = 0 → i = 0) → Z X (rX2_fillSquare zN) mX2_fillSquare 2 [(2, 11), (2, 16), (0, ((i + 1 : Nat) : Int)), (9, 0), (9, 0)] [] zN τ (zQv T) := by
    intro r
    induction r with
    | zero =>
      intro i τ w' hi o n v hz
      have t4 : τ 11 4 = k := by rw [o 11 (by decide)]; exact hk
      refine bk_X2_fillSquare_2 ⟨by constructor <;> omega, by rw [t4]; constructor <;> omega, fun _ => h τ w' o n (fun a b ha hb => v a b (by omega) hb), fun q => absurd (by rw [t4]; omega) q⟩
    | succ r ih =>
      intro i τ w' hi o n v hz
      have t4 : τ 11 4 = k := by rw [o 11 (by decide)]; exact hk
      by_cases k0 : k = 0
      · refine bk_X2_fillSquare_2 ⟨by have := hz k0; constructor <;> omega, by rw [t4]; constructor <;> omega, fun _ => h τ w' o n (fun a b ha hb => by omega), fun q => absurd (by rw [t4]; omega) q⟩
      · have inner : ∀ (e j : Nat) (τ : ZM) (w' : Int → Int), j + 1 + e = k → Ou 29 140 σ τ → WN τ w' → (∀ a b : Nat, a < i → b + 1 < k → w' (G ((a : Int) * 8 + b)) = A (a + 1) 0 + A 0 (b + 1) - A (a + 1) (b + 1) - A 0 0) → (∀ b : Nat, b < j → w' (G ((i : Int) * 8 + b)) = A (i + 1) 0 + A 0 (b + 1) - A (i + 1) (b + 1) - A 0 0) → Z X (rX2_fillSquare zN) mX2_fillSquare 12 [(2, 11), (2, 16), (0, ((i + 1 : Nat) : Int)), (0, ((j + 1 : Nat) : Int)), (9, 0)] [] zN τ (zQv T) := by
          intro e
          induction e with
          | zero =>
            intro j τ w' hj o n v vi
            have t4 : τ 11 4 = k := by rw [o 11 (by decide)]; exact hk
            refine bk_X2_fillSquare_12 ⟨by constructor <;> omega, by rw [t4]; constructor <;> omega, fun _ => ih (i + 1) τ w' (by omega) o n (fun a b ha hb => ?_) (fun q => absurd q k0), fun q => absurd (by rw [t4]; omega) q⟩
            by_cases q : a = i
            · subst q; exact vi b (by omega)
            · exact v a b (by omega) hb
          | succ e ih2 =>
            intro j τ w' hj o n v vi
            have t4 : τ 11 4 = k := by rw [o 11 (by decide)]; exact hk
            have a1 := A0 o (i + 1) 0 (by omega) (by omega)
            have a2 := A0 o 0 (j + 1) (by omega) (by omega)
            have a3 := A0 o (i + 1) (j + 1) (by omega) (by omega)
            have a4 := A0 o 0 0 (by omega) (by omega)
            rw [show ((i + 1 : Nat) : Int) * 8 + ((0 : Nat) : Int) = ((i + 1 : Nat) : Int) * 8 by omega] at a1
            rw [show ((0 : Nat) : Int) * 8 + ((j + 1 : Nat) : Int) = ((j + 1 : Nat) : Int) by omega] at a2
            rw [show ((0 : Nat) : Int) * 8 + ((0 : Nat) : Int) = 0 by omega] at a4
            have r1 := hr (i + 1) 0 (by omega) (by omega)
            have r2 := hr 0 (j + 1) (by omega) (by omega)
            have r3 := hr (i + 1) (j + 1) (by omega) (by omega)
            have r4 := hr 0 0 (by omega) (by omega)
            refine bk_X2_fillSquare_12 ⟨by constructor <;> omega, by rw [t4]; constructor <;> omega, fun q => absurd q (by rw [t4]; omega), fun _ => ?_⟩
            rw [a1, a2, a3, a4, show ((i + 1 : Nat) : Int) - 1 = (i : Int) by omega, show ((j + 1 : Nat) : Int) - 1 = (j : Int) by omega]
            have e17 : τ 17 = G := by rw [hG, o 17 (by decide)]
            refine ⟨n.1, by omega, by omega, by omega, by omega, by omega, by omega, by constructor <;> omega, w_gput (by omega) (by omega) (by rw [e17]; exact hg) n (by constructor <;> omega) (fun σ' o' n' => ?_)⟩
            rw [e17] at n'
            refine ih2 (j + 1) σ' _ (by omega) (o.trans o') n' (fun a b ha hb => ?_) (fun b hb => ?_)
            · rw [fu_n _ _ (fun q => by have := hg.ne (i := a) (j := b) (k := i) (l := j) (by omega) (by omega) (by omega) (by omega) q; omega)]
              exact v a b ha hb
            · by_cases q : b = j
              · subst q; rw [fu_s]
              · rw [fu_n _ _ (fun q2 => q (hg.ne (i := i) (j := b) (k := i) (l := j) (by omega) (by omega) (by omega) (by omega) q2).2)]
                exact vi b (by omega)
        exact bk_X2_fillSquare_2 ⟨by constructor <;> omega, by rw [t4]; constructor <;> omega, fun q => absurd q (by rw [t4]; omega), fun _ => inner (k - 1) 0 τ w' (by omega) o n v (fun b hb => by omega)⟩
  exact bk_X2_fillSquare (outer (k - 1) 0 σ w (by omega) Ou.rfl' hn (fun a b ha _ => by omega) (fun _ => rfl))
theorem c_fillRight {X : ZS} {σ : ZM} {T : ZM → Prop} {w : Int → Int} {k : Nat} {A : Nat → Nat → Int} {ρ : Nat → Int} {P : Int} (k8 : k ≤ 8) (k1 : 1 ≤ k) (hk : σ 11 4 = k) (hP : σ 11 5 = P) (p0 : 0 ≤ P) (p6 : P ≤ 6) (hg : GP (σ 17)) (hn : WN σ w) (hA : ∀ i j : Nat, i < k → j < k → σ 13 ((i : Int) * 8 + j) = A i j) (hr : ∀ i j : Nat, i < k → j < k → -20000 ≤ A i j ∧ A i j ≤ 20000) (hρ : ∀ i : Nat, i < k → σ 14 (i : Int) = ρ i) (hρr : ∀ i : Nat, i < k → 0 ≤ ρ i ∧ ρ i ≤ 100000)
    (h : ∀ σ' w', Ou 29 140 σ σ' → WN σ' w' → (∀ i : Nat, i + 1 < k → w' (σ 17 ((i : Int) * 8 + ((k - 1 : Nat) : Int))) = ρ 0 - ρ (i + 1) + P * (A (i + 1) 0 - A 0 0)) → (∀ i j : Nat, i + 1 < k → j + 1 < k → w' (σ 17 ((i : Int) * 8 + j)) = w (σ 17 ((i : Int) * 8 + j))) → T σ') : ZC X (rX2_fillRight zN) mX2_fillRight [(2, 11), (2, 16)] zN σ (zQv T) := by
  obtain ⟨G, hG⟩ : ∃ G : Int → Int, G = σ 17 := ⟨_, rfl⟩
  rw [← hG] at hg h
  have outer : ∀ (r i : Nat) (τ : ZM) (w' : Int → Int), i + 1 + r = k → Ou 29 140 σ τ → WN τ w' → (∀ a : Nat, a < i → w' (G ((a : Int) * 8 + ((k - 1 : Nat) : Int))) = ρ 0 - ρ (a + 1) + P * (A (a + 1) 0 - A 0 0)) → (∀ a b : Nat, a + 1 < k → b + 1 < k → w' (G ((a : Int) * 8 + b)) = w (G ((a : Int) * 8 + b))) → Z X (rX2_fillRight zN) mX2_fillRight 2 [(2, 11), (2, 16), (0, ((i + 1 : Nat) : Int)), (9, 0)] [] zN τ (zQv T) := by
    intro r
    induction r with
    | zero =>
      intro i τ w' hi o n v u
      have t4 : τ 11 4 = k := by rw [o 11 (by decide)]; exact hk
      exact bk_X2_fillRight_2 ⟨by constructor <;> omega, by rw [t4]; constructor <;> omega, fun _ => h τ w' o n (fun a ha => v a (by omega)) u, fun q => absurd (by rw [t4]; omega) q⟩
    | succ r ih =>
      intro i τ w' hi o n v u
      have t4 : τ 11 4 = k := by rw [o 11 (by decide)]; exact hk
      have a1 := hA (i + 1) 0 (by omega) (by omega)
      have a4 := hA 0 0 (by omega) (by omega)
      rw [show ((i + 1 : Nat) : Int) * 8 + ((0 : Nat) : Int) = ((i + 1 : Nat) : Int) * 8 by omega] at a1
      rw [show ((0 : Nat) : Int) * 8 + ((0 : Nat) : Int) = 0 by omega] at a4
      have r1 := hr (i + 1) 0 (by omega) (by omega)
      have r4 := hr 0 0 (by omega) (by omega)
      have q1 := hρr 0 (by omega)
      have q2 := hρr (i + 1) (by omega)
      have pb := z_pb (x := P) (y := A (i + 1) 0 - A 0 0) (A := 6) (F := 40000) (by omega) (by omega) (by omega) (by omega) (by decide)
      have e17 : τ 17 = G := by rw [hG, o 17 (by decide)]
      refine bk_X2_fillRight_2 ⟨by constructor <;> omega, by rw [t4]; constructor <;> omega, fun q => absurd q (by rw [t4]; omega), fun _ => ?_⟩
      rw [t4, o 14 (by decide), o 13 (by decide), o 11 (by decide), hP, a1, a4, hρ (i + 1) (by omega), show σ 14 0 = ρ 0 from hρ 0 (by omega), show ((i + 1 : Nat) : Int) - 1 = (i : Int) by omega, show (k : Int) - 1 = ((k - 1 : Nat) : Int) by omega]
      refine ⟨n.1, by omega, by omega, by omega, by omega, by constructor <;> omega, w_gput (by omega) (by omega) (by rw [e17]; exact hg) n (by constructor <;> omega) (fun σ' o' n' => ?_)⟩
      rw [e17] at n'
      refine ih (i + 1) σ' _ (by omega) (o.trans o') n' (fun a ha => ?_) (fun a b ha hb => ?_)
      · by_cases q : a = i
        · subst q; rw [fu_s]
        · rw [fu_n _ _ (fun q2 => q (hg.ne (i := a) (j := k - 1) (k := i) (l := k - 1) (by omega) (by omega) (by omega) (by omega) q2).1)]
          exact v a (by omega)
      · rw [fu_n _ _ (fun q2 => by have := (hg.ne (i := a) (j := b) (k := i) (l := k - 1) (by omega) (by omega) (by omega) (by omega) q2).2; omega)]
        exact u a b ha hb
  exact bk_X2_fillRight (outer (k - 1) 0 σ w (by omega) Ou.rfl' hn (fun a ha => by omega) (fun a b _ _ => rfl))
