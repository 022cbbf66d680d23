def gM (α : ZM) (k : Int) (i : Int) : Bool := decide (-20 ≤ α 8 (60 * k + i) ∧ α 8 (60 * k + i) ≤ 20)
def rdM (α : ZM) (k : Int) : Int := if α 6 k - 1 ≤ 0 then -6 else if 1 ≤ α 8 (60 * k + 0) ∧ α 8 (60 * k + 0) ≤ 6 then chk (α 6 k - 1) (gM α k) 1 (2 * (α 8 (60 * k + 0)).toNat) else -4
def fM (α : ZM) (k : Int) : Int → Int := fun j => α 8 (60 * k + (1 + 2 * j))
def hM (α : ZM) (k : Int) : Int → Int := fun j => α 8 (60 * k + (2 + 2 * j))
noncomputable def o_mean (α : ZM) (k : Int) : Int := if ¬ (0 ≤ k ∧ k < 8) then -2 else if α 6 k = 0 then -5 else if rdM α k < 0 then rdM α k else if α 0 2 = -1 ∨ α 0 0 = 0 then -10 else o_guess α (fM α k) (hM α k) (α 8 (60 * k + 0)).toNat
noncomputable def s_mean (α : ZM) (k : Int) : ZM := if ¬ (0 ≤ k ∧ k < 8) then α else if α 6 k = 0 then α else if rdM α k < 0 then α else if α 0 2 = -1 ∨ α 0 0 = 0 then α else s_guess α (fM α k) (hM α k) (α 8 (60 * k + 0)).toNat
theorem ok_mean {α : ZM} {k : Int} (ok : Ok α) : Ok (s_mean α k) := by
  unfold s_mean
  split
  · exact ok
  · split
    · exact ok
    · split
      · exact ok
      · split
        · exact ok
        · exact ok_guess ok
theorem chk_neg {n : Int} {g : Int → Bool} {i : Int} {l : Nat} (h : ¬ chk n g i l < 0) : chk n g i l = 0 := by
  rcases chk_le (n := n) (g := g) (i := i) (l := l) with e | e | e <;> omega
theorem rd2 (n : Int) (g : Int → Bool) (t : Int) (l : Nat) : chk n g t (l + 2) = if n ≤ t then -6 else if g t then (if n ≤ t + 1 then -6 else if g (t + 1) then chk n g (t + 1 + 1) l else -4) else -4 := rfl
theorem b_mean {X : ZS} {σ α : ZM} {T : Int → ZM → Prop} {k : Int} (hk : r32 k) (cs : CS σ α) (ok : Ok α) (h : ∀ σ', Ou 1 210 σ σ' → CS σ' (s_mean α k) → T (o_mean α k) σ') : ZC X (rX11_mean zN) mX11_mean [(2, 1), (0, k)] zN σ (zQi T) := by
  have hf := cs.fix
  have cl := cs.2.1
  have s8 := ok.s
  have g1 := cs.2.2.1.1
  refine bk_X11_mean ⟨hf, c_exists hk (fun k0 k8 => ⟨fun _ => ⟨hf, ?_⟩, fun q => (by cases q)⟩) (fun q => ⟨fun q => (by cases q), fun _ => ?_⟩)⟩
  · have k08 : ¬ ¬ (0 ≤ k ∧ k < 8) := fun q => q ⟨k0, k8⟩
    refine c_sholds hk hf cl ok (fun _ _ ke => ⟨fun _ => ⟨hf, bk_X8_startReading ?_⟩, fun q => (by cases q)⟩) (fun q => ⟨fun q => (by cases q), fun _ => ?_⟩)
    · have ek := ok.e k k0 k8
      have no : ∀ (τ : ZM) (e : Int), Fix τ → (∀ c : Int, c ≠ 2 → (c < 8 ∨ 10 < c) → τ c = σ c) → τ 2 8 = e → rdM α k = e → e < 0 → (Fix τ) ∧ T (τ 2 8) τ := fun τ e f o p8 he q => by
        refine ⟨f, ?_⟩
        have eo : o_mean α k = e := by unfold o_mean; rw [if_neg k08, if_neg ke, if_pos (by omega), he]
        have es : s_mean α k = α := by unfold s_mean; rw [if_neg k08, if_neg ke, if_pos (by omega)]
        rw [eo, es] at h
        rw [p8]
        exact h τ (fun c hc => o c (by omega) (by omega)) (cs.tmp (cs.1.fr f (fun c _ _ _ => o c (by omega) (by omega))) (fun c hc => o c (by omega) (by omega)))
      obtain ⟨σ0, hσ0⟩ : ∃ σ0 : ZM, σ0 = z_up (z_up (z_up σ 2 3 k) 2 4 0) 2 8 0 := ⟨_, rfl⟩
      rw [← hσ0]
      have f0 : Fix σ0 := by rw [hσ0]; exact ((hf.upF la_2 3 (by decide +kernel)).upF la_2 4 (by decide +kernel)).upF la_2 8 (by decide +kernel)
      have o0 : ∀ c : Int, c ≠ 2 → σ0 c = σ c := fun c hc => by rw [hσ0, z_up_far _ _ _ hc, z_up_far _ _ _ hc, z_up_far _ _ _ hc]
      have r3 : σ0 2 3 = k := by rw [hσ0, z_up_ne _ (Or.inr (by decide)), z_up_ne _ (Or.inr (by decide)), z_up_same]
      have r4 : σ0 2 4 = 0 := by rw [hσ0, z_up_ne _ (Or.inr (by decide)), z_up_same]
      refine bk_X11_readAsked ⟨f0, bk_X6_clear la_8 ?_⟩
      obtain ⟨σ1, hσ1⟩ : ∃ σ1 : ZM, σ1 = z_up σ0 8 2 0 := ⟨_, rfl⟩
      rw [← hσ1]
      have f1 : Fix σ1 := by rw [hσ1]; exact f0.upF la_8 2 (by decide +kernel)
      have o1 : ∀ c : Int, c ≠ 2 → (c < 8 ∨ 10 < c) → σ1 c = σ c := fun c hc hs => by rw [hσ1, z_up_far _ _ _ (by omega)]; exact o0 c hc
      have u3 : σ1 2 3 = k := by rw [hσ1, z_up_far _ _ _ (by decide), r3]
      have u4 : σ1 2 4 = 0 := by rw [hσ1, z_up_far _ _ _ (by decide), r4]
      have us : σ1 8 2 = 0 := by rw [hσ1, z_up_same]
      have cl1 : CL σ1 α := cl.fr (o1 3 (by decide) (by omega)) (o1 4 (by decide) (by omega)) (o1 5 (by decide) (by omega)) rfl rfl rfl
      refine ⟨f1, c_readNext f1 cl1 ok k0 k8 ke u3 u4 (Int.le_refl _) (by decide) (by decide) (by decide) (fun t1 v1 v2 => ⟨fun _ => ?_, fun q => (by cases q)⟩) (fun q => ⟨fun q => (by cases q), fun _ => ⟨fun q => (by cases q), fun _ => no _ (-6) (f1.upF la_2 8 (by decide +kernel)) (fun c c2 hc => by rw [z_up_far _ _ _ c2]; exact o1 c c2 hc) (z_up_same _ _ _ _) (by unfold rdM; rw [if_pos q]) (by decide)⟩⟩) (fun q1 q => ⟨fun q => (by cases q), fun _ => ⟨fun q => (by cases q), fun _ => no _ (-4) (f1.upF la_2 8 (by decide +kernel)) (fun c c2 hc => by rw [z_up_far _ _ _ c2]; exact o1 c c2 hc) (z_up_same _ _ _ _) (by unfold rdM; rw [if_neg (by omega), if_neg q]) (by decide)⟩⟩)⟩
      obtain ⟨m, hm⟩ : ∃ m : Nat, α 8 (60 * k + 0) = m := ⟨(α 8 (60 * k + 0)).toNat, by omega⟩
      have m6 : 1 ≤ m ∧ m ≤ 6 := by omega
      have e0 : rdM α k = chk (α 6 k - 1) (gM α k) 1 (2 * m) := by
        unfold rdM; rw [if_neg (by omega), if_pos ⟨v1, v2⟩, hm]; rfl
      rw [hm]
      obtain ⟨σ2, hσ2⟩ : ∃ σ2 : ZM, σ2 = z_up (z_up σ1 2 5 (m : Int)) 2 4 (0 + 1) := ⟨_, rfl⟩
      rw [← hσ2]
      have f2 : Fix σ2 := by rw [hσ2]; exact (f1.upF la_2 5 (by decide +kernel)).upF la_2 4 (by decide +kernel)
      have o2 : ∀ c : Int, c ≠ 2 → σ2 c = σ1 c := fun c hc => by rw [hσ2, z_up_far _ _ _ hc, z_up_far _ _ _ hc]
      have s5 : σ2 2 5 = m := by rw [hσ2, z_up_ne _ (Or.inr (by decide)), z_up_same]
      have s4 : σ2 2 4 = 1 := by rw [hσ2, z_up_same]; rfl
      have s3 : σ2 2 3 = k := by rw [hσ2, z_up_ne _ (Or.inr (by decide)), z_up_ne _ (Or.inr (by decide)), u3]
      rw [s5]
      refine ⟨f2, ?_⟩
      have loop : ∀ (l j : Nat) (τ : ZM), j + l = m → Fix τ → (∀ c : Int, c ≠ 2 → (c < 8 ∨ 10 < c) → τ c = σ c) → τ 2 3 = k → τ 2 4 = 1 + 2 * (j : Int) → τ 8 2 = j → (∀ i : Int, 0 ≤ i → i < j → τ 9 i = fM α k i ∧ τ 10 i = hM α k i ∧ (-20 ≤ fM α k i ∧ fM α k i ≤ 20) ∧ (-20 ≤ hM α k i ∧ hM α k i ≤ 20)) → rdM α k = chk (α 6 k - 1) (gM α k) (1 + 2 * (j : Int)) (2 * l) →
          Z X (rX11_readAsked zN) mX11_readAsked 32 [(2, 1), (0, (m : Int)), (0, (j : Int))] [] zN τ (zQz (fun r10 σ11 => ((r10 = true) → ZC X (rX11_canGuess zN) mX11_canGuess [(2, 1)] zN σ11 (zQz (fun r12 σ13 => ((r12 = false) → T (-10) σ13) ∧ ((r12 = true) → ZC X (rX11_guessForAsked zN) mX11_guessForAsked [(2, 1)] zN σ13 (zQi (fun r14 σ15 => T r14 σ15)))))) ∧ ((r10 = false) → (Fix σ11) ∧ T (σ11 2 8) σ11))) := by
        intro l
        induction l with
        | zero =>
          intro j τ hj f o t3 t4 ts tx ec
          have : j = m := by omega
          subst this
          have ec : rdM α k = 0 := ec
          have cst : CS τ α := cs.tmp (cs.1.fr f (fun c _ _ _ => o c (by omega) (by omega))) (fun c hc => o c (by omega) (by omega))
          refine bk_X11_readAsked_32 ⟨by constructor <;> omega, by constructor <;> omega, fun _ => ⟨fun _ => ?_, fun q => (by cases q)⟩, fun q => absurd (Int.le_refl _) q⟩
          refine c_canGuess cst ok (fun ng => ⟨fun q => (by cases q), fun _ => ?_⟩) (fun ng => ⟨fun _ => ?_, fun q => (by cases q)⟩)
          · have eo : o_mean α k = o_guess α (fM α k) (hM α k) j := by unfold o_mean; rw [if_neg k08, if_neg ke, if_neg (by omega), if_neg ng, hm]; rfl
            have es : s_mean α k = s_guess α (fM α k) (hM α k) j := by unfold s_mean; rw [if_neg k08, if_neg ke, if_neg (by omega), if_neg ng, hm]; rfl
            rw [eo, es] at h
            have Qt : PL τ 8 6 j (fM α k) (hM α k) := ⟨la_8, la_9, la_10, ts, by omega, by decide, tx⟩
            exact b_guess cst ok (by omega) (by omega) Qt m6.1 (fun σ' o' c' => h σ' (fun c hc => by rw [o' c hc, o c (by omega) (by omega)]) c')
          · have eo : o_mean α k = -10 := by unfold o_mean; rw [if_neg k08, if_neg ke, if_neg (by omega), if_pos ng]
            have es : s_mean α k = α := by unfold s_mean; rw [if_neg k08, if_neg ke, if_neg (by omega), if_pos ng]
            rw [eo, es] at h
            exact h τ (fun c hc => o c (by omega) (by omega)) cst
        | succ l ih =>
          intro j τ hj f o t3 t4 ts tx ec
          have ec := ec.trans (rd2 (α 6 k - 1) (gM α k) (1 + 2 * (j : Int)) (2 * l))
          have clt : CL τ α := cl.fr (o 3 (by decide) (by omega)) (o 4 (by decide) (by omega)) (o 5 (by decide) (by omega)) rfl rfl rfl
          have e2 : 1 + 2 * (j : Int) + 1 = 2 + 2 * (j : Int) := by omega
          refine bk_X11_readAsked_32 ⟨by constructor <;> omega, by constructor <;> omega, fun q => absurd q (by omega), fun _ => ⟨f, c_readPlace f clt ok k0 k8 ke t3 t4 (by omega) (by omega) (fun σ5 f5 o5 p3 p4 p6 p7 t1 w1 w2 => ⟨fun _ => ⟨f5, ?_⟩, fun q => (by cases q)⟩) (fun σ5 e f5 o5 p8 he => ⟨fun q => (by cases q), fun _ => ⟨fun q => (by cases q), fun _ => no σ5 e f5 (fun c c2 hc => by rw [o5 c c2]; exact o c c2 hc) p8 ?_ ?_⟩⟩)⟩⟩
          · rw [p6, p7]
            refine bk_X6_add la_8 ?_
            rw [o5 8 (by decide), ts, show z_l (8 + 1) = (20, 6) from la_9, show z_l (8 + 2) = (20, 6) from la_10]
            refine ⟨f5, by constructor <;> omega, by decide, fun q => absurd q (by show ¬ (6 : Int) ≤ (j : Int); omega), fun _ => ⟨by omega, by show (j : Int) < 6; omega, by show (j : Int) < 6; omega, ?_⟩⟩
            rw [if_neg (by omega), if_pos (show gM α k (1 + 2 * (j : Int)) = true from decide_eq_true w1), if_neg (by omega), if_pos (show gM α k (1 + 2 * (j : Int) + 1) = true from decide_eq_true w2)] at ec
            refine ih (j + 1) _ (by omega) (((f5.upA (a := 9) la_9 (by decide)).upA (a := 10) la_10 (by decide)).upF la_8 2 (by decide +kernel)) (fun c c2 hc => ?_) ?_ ?_ (by rw [z_up_same]; rfl) (fun i i0 i1 => ?_) (by rw [ec, show 1 + 2 * (j : Int) + 1 + 1 = 1 + 2 * ((j + 1 : Nat) : Int) by omega])
            · rw [z_up_far _ _ _ (by omega), z_up_far _ _ _ (by omega), z_up_far _ _ _ (by omega), o5 c c2]; exact o c c2 hc
            · rw [z_up_far _ _ _ (by decide), z_up_far _ _ _ (by decide), z_up_far _ _ _ (by decide), p3]
            · rw [z_up_far _ _ _ (by decide), z_up_far _ _ _ (by decide), z_up_far _ _ _ (by decide), p4]; omega
            · have r9 : (z_up (z_up (z_up σ5 (8 + 1) (j : Int) (α 8 (60 * k + (1 + 2 * (j : Int))))) (8 + 2) (j : Int) (α 8 (60 * k + (1 + 2 * (j : Int) + 1)))) 8 2 ((j : Int) + 1)) 9 = fu (σ5 9) j (fM α k j) := by
                rw [z_up_far _ _ _ (by decide), z_up_far _ _ _ (by decide)]; exact z_up_row _ _ _ _
              have r10 : (z_up (z_up (z_up σ5 (8 + 1) (j : Int) (α 8 (60 * k + (1 + 2 * (j : Int))))) (8 + 2) (j : Int) (α 8 (60 * k + (1 + 2 * (j : Int) + 1)))) 8 2 ((j : Int) + 1)) 10 = fu (σ5 10) j (hM α k j) := by
                rw [z_up_far _ _ _ (by decide), e2]
                exact (z_up_row _ _ _ _).trans (by rw [z_up_far _ _ _ (by decide)]; rfl)
              rw [r9, r10]
              by_cases q : i = j
              · subst q; rw [fu_s, fu_s]; rw [e2] at w2; exact ⟨rfl, rfl, w1, w2⟩
              · rw [fu_n _ _ q, fu_n _ _ q, o5 9 (by decide), o5 10 (by decide)]; exact tx i i0 (by omega)
          · rw [ec]
            rcases he with ⟨he, a | ⟨a, b, c⟩⟩ | ⟨he, ⟨a, b⟩ | ⟨a, b, c⟩⟩
            · rw [if_pos a, he]
            · rw [if_neg (by omega), if_pos (show gM α k (1 + 2 * (j : Int)) = true from decide_eq_true b), if_pos c, he]
            · rw [if_neg (by omega), show gM α k (1 + 2 * (j : Int)) = false from decide_eq_false b, he]; rfl
            · rw [if_neg (by omega), if_pos (show gM α k (1 + 2 * (j : Int)) = true from decide_eq_true b), if_neg (by omega), show gM α k (1 + 2 * (j : Int) + 1) = false from decide_eq_false c, he]; rfl
          · rcases he with ⟨he, _⟩ | ⟨he, _⟩ <;> omega
      exact loop m 0 σ2 (by omega) f2 (fun c c2 hc => by rw [o2 c c2]; exact o1 c c2 hc) s3 s4 (by rw [o2 _ (by decide), us]; rfl) (fun i i0 i1 => by omega) e0
    · have z : α 6 k = 0 := by apply Classical.byContradiction; intro w; exact q ⟨k0, k8, w⟩
      have eo : o_mean α k = -5 := by unfold o_mean; rw [if_neg k08, if_pos z]
      have es : s_mean α k = α := by unfold s_mean; rw [if_neg k08, if_pos z]
      rw [eo, es] at h
      exact h σ Ou.rfl' cs
  · have eo : o_mean α k = -2 := by unfold o_mean; rw [if_pos q]
    have es : s_mean α k = α := by unfold s_mean; rw [if_pos q]
    rw [eo, es] at h
    exact h σ Ou.rfl' cs
