theorem MS.after {σ σ1 α : ZM} (ms : MS σ α) (o : Ou 1 210 σ σ1) (f : Fix σ1) : MS σ1 α := ms.fr f (fun c a b => o c (by omega))
theorem CS.after {σ1 σ2 α : ZM} (cs : CS σ1 α) (o : Ou 211 229 σ1 σ2) (f : Fix σ2) : CS σ2 α := cs.fr f (fun c a b => o c (by omega))
theorem r32_of {x : Int} (h0 : -100000 ≤ x) (h1 : x ≤ 1000000000) : r32 x := by constructor <;> omega
theorem o_row_r (k w n : Int) : r32 (o_row k w n) := by unfold o_row; split <;> (try split) <;> decide
theorem o_write_r (α : ZM) (k i : Int) : r32 (o_write α k i) := by unfold o_write; split <;> (try split) <;> (try split) <;> decide
theorem chk_r {n : Int} {g : Int → Bool} {i : Int} {l : Nat} : -6 ≤ chk n g i l ∧ chk n g i l ≤ 0 := by rcases chk_le (n := n) (g := g) (i := i) (l := l) with e | e | e <;> omega
theorem rdS_r (α : ZM) (k : Int) : -6 ≤ rdS α k := by
  unfold rdS
  split
  · decide
  · split
    · exact chk_r.1
    · decide
theorem rdT_r (α : ZM) (k : Int) : -6 ≤ rdT α k := by
  unfold rdT
  split
  · decide
  · split
    · exact chk_r.1
    · decide
theorem rdM_r (α : ZM) (k : Int) : -6 ≤ rdM α k := by
  unfold rdM
  split
  · decide
  · split
    · exact chk_r.1
    · decide
theorem o_seen_r (α : ZM) (k : Int) : r32 (o_seen α k) := by
  have := rdS_r α k
  unfold o_seen
  split
  · decide
  · split
    · decide
    · split
      · exact r32_of (by omega) (by omega)
      · rename_i q
        have := (rdS_ok q).1
        exact r32_of (by omega) (by omega)
theorem o_see_r {α : ZM} (ok : Ok α) (x y n d : Int) : r32 (o_see α x y n d) := by
  have := ok.s
  unfold o_see
  split <;> (try split) <;> (try split) <;> exact r32_of (by omega) (by omega)
theorem o_drop_r {α : ZM} (ok : Ok α) (i : Int) : r32 (o_drop α i) := by
  have := ok.s
  unfold o_drop
  split <;> exact r32_of (by omega) (by omega)
theorem o_cap_r {α : ZM} (ok : Ok α) (a b : Int) : r32 (o_cap α a b) := by
  have := ok.l
  unfold o_cap
  split <;> (try split) <;> exact r32_of (by omega) (by omega)
theorem o_table_r {α : ZM} (ok : Ok α) (k : Int) : r32 (o_table α k) := by
  have := ok.l
  have := rdT_r α k
  unfold o_table
  split
  · decide
  · split
    · decide
    · split
      · decide
      · split <;> exact r32_of (by omega) (by omega)
theorem o_sum_r {α : ZM} (ok : Ok α) (a b : Int) : r32 (o_sum α a b) := by
  have := ok.l
  unfold o_sum
  split <;> (try split) <;> (try split) <;> exact r32_of (by omega) (by omega)
theorem o_unlike_r {α : ZM} (ok : Ok α) (l w : Int) : r32 (o_unlike α l w) := by
  unfold o_unlike
  split
  · rename_i q
    have := (ok.w l w q.1.1 q.1.2 q.2.1 q.2.2).1
    exact r32_of (by omega) (by omega)
  · decide
theorem o_told_r {α : ZM} (ok : Ok α) (i w : Int) : r32 (o_told α i w) := by
  unfold o_told
  split
  · rename_i q
    have := ok.g i q.1 q.2
    split <;> (try split) <;> (try split) <;> (try split) <;> exact r32_of (by omega) (by omega)
  · decide
theorem held_r (α : ZM) : ∀ n : Nat, 0 ≤ held α n ∧ held α n ≤ n
  | 0 => ⟨Int.le_refl _, Int.le_refl _⟩
  | n + 1 => by
    have := held_r α n
    show 0 ≤ held α n + _ ∧ held α n + _ ≤ _
    split <;> omega
theorem o_count_r {α : ZM} (ok : Ok α) (w : Int) : r32 (o_count α w) := by
  have h1 := ok.s
  have h2 := ok.l
  have h3 := ok.u
  have h4 := ok.n
  have h5 := ok.h
  have h6 := held_r α 8
  unfold o_count
  split
  · exact r32_of (by omega) (by omega)
  · split
    · exact r32_of (by omega) (by omega)
    · split
      · exact r32_of (by omega) (by omega)
      · split
        · exact r32_of (by omega) (by omega)
        · split
          · exact r32_of (by omega) (by omega)
          · split
            · exact r32_of (by omega) (by omega)
            · decide
theorem o_guess_r (α : ZM) (f g : Int → Int) (q : Nat) : r32 (o_guess α f g q) := by
  unfold o_guess
  by_cases h : kG α f g q
  · rw [if_pos h]; decide
  · rw [if_neg h]; decide
theorem o_ask_r (α : ZM) (x y : Int) : r32 (o_ask α x y) := by
  unfold o_ask
  split
  · decide
  · split
    · decide
    · exact o_guess_r _ _ _ _
theorem o_mean_r (α : ZM) (k : Int) : r32 (o_mean α k) := by
  have := rdM_r α k
  unfold o_mean
  split
  · decide
  · split
    · decide
    · split
      · exact r32_of (by omega) (by omega)
      · split
        · decide
        · exact o_guess_r _ _ _ _
theorem jd_r {u : Nat} {A : Nat → Nat → Int} {r : Int} (h : jd u A r) : r32 r := by rcases h with ⟨e, _⟩ | ⟨e, _⟩ | ⟨e, _⟩ <;> rw [e] <;> decide
theorem Dgt.r {x i r : Int} (h : Dgt x i r) : r32 r := by
  obtain ⟨f, f1, _, f3⟩ := h
  rw [f3]
  split
  · rename_i q
    have := f1 i q.1 q.2
    exact r32_of (by omega) (by omega)
  · decide
theorem Ndg.r {x r : Int} (h : Ndg x r) : 0 ≤ r ∧ r ≤ 16 := by
  obtain ⟨f, n, _, _, n16, _, _, e⟩ := h
  omega
theorem R_look.r {α : ZM} {w r : Int} (h : R_look α w r) : r32 r := by
  by_cases w0 : w = 0
  · rw [h.1 w0]; split <;> (try split) <;> decide
  · by_cases w1 : w = 1
    · obtain ⟨n, a, b⟩ := h.2.1 w1
      have := a.r
      exact r32_of (by omega) (by omega)
    · by_cases w2 : w = 2
      · obtain ⟨n, a, b⟩ := h.2.2.1 w2
        have := a.r
        exact r32_of (by omega) (by omega)
      · rw [h.2.2.2 w0 w1 w2]; decide
theorem law_loop {X : ZS} {T : Bool → ZM → Prop} (hX : (X.1 : Int) ≤ 2147483600) (hT : ∀ σ, T true σ) : ∀ (f : Nat) (x3 : Int) (σ α : ZM), 0 ≤ x3 → x3 ≤ X.1 + 5 → (X.1 : Int) ≤ x3 + 5 * f + 4 → Ok α → CS σ α → MS σ α → Z X (rL_law zN) mL_law 18 [(3, 0), (2, 1), (2, 211), (0, x3)] [] zN σ (zQz T) := by
  intro f
  induction f with
  | zero =>
    intro x3 σ α x0 x1 hx ok cs ms
    exact bk_L_law_18 ⟨by constructor <;> omega, by constructor <;> omega, fun _ => hT σ, fun q => absurd (by omega) q⟩
  | succ f ih =>
    intro x3 σ α x0 x1 hx ok cs ms
    refine bk_L_law_18 ⟨by constructor <;> omega, by constructor <;> omega, fun _ => hT σ, fun q => ?_⟩
    have r : ∀ n : Nat, r32 (X.2 n).toInt := fun n => iz_rng _
    have g1 : (0 ≤ x3 + 1) ∧ (x3 + 1 < X.1) ∧ r32 (x3 + 1) := ⟨by omega, by omega, by constructor <;> omega⟩
    have g2 : (0 ≤ x3 + 2) ∧ (x3 + 2 < X.1) ∧ r32 (x3 + 2) := ⟨by omega, by omega, by constructor <;> omega⟩
    have g3 : (0 ≤ x3 + 3) ∧ (x3 + 3 < X.1) ∧ r32 (x3 + 3) := ⟨by omega, by omega, by constructor <;> omega⟩
    have g4 : (0 ≤ x3 + 4) ∧ (x3 + 4 < X.1) ∧ r32 (x3 + 4) := ⟨by omega, by omega, by constructor <;> omega⟩
    have nx : ∀ (σ' α' : ZM), Ok α' → CS σ' α' → MS σ' α' → Z X (rL_law zN) mL_law 18 [(3, 0), (2, 1), (2, 211), (0, (x3 + 5))] [] zN σ' (zQz T) := fun σ' α' o c m => ih (x3 + 5) σ' α' (by omega) (by omega) (by omega) o c m
    -- after both have answered
    have fi : ∀ (a : Int) (σ1 σ2 α' : ZM), r32 a → Ok α' → CS σ1 α' → Ou 211 229 σ1 σ2 → MS σ2 α' → (r32 a) ∧ (r32 a) ∧ ((a = a) → Z X (rL_law zN) mL_law 18 [(3, 0), (2, 1), (2, 211), (0, (x3 + 5))] [] zN σ2 (zQz T)) ∧ ((¬ a = a) → T false σ2) := fun a σ1 σ2 α' ra o c u m => ⟨ra, ra, fun _ => nx σ2 α' o (c.after u m.fix) m, fun q => absurd rfl q⟩
    have fz : ∀ (a : Bool) (σ1 σ2 α' : ZM), Ok α' → CS σ1 α' → Ou 211 229 σ1 σ2 → MS σ2 α' → ((zb a = zb a) → Z X (rL_law zN) mL_law 18 [(3, 0), (2, 1), (2, 211), (0, (x3 + 5))] [] zN σ2 (zQz T)) ∧ ((¬ zb a = zb a) → T false σ2) := fun a σ1 σ2 α' o c u m => ⟨fun _ => nx σ2 α' o (c.after u m.fix) m, fun q => absurd rfl q⟩
    obtain ⟨y, hy⟩ : ∃ y, y = ((X.2 (x3).toNat).toInt) % 2 ^ 5 := ⟨_, rfl⟩
    have yr : 0 ≤ y ∧ y < 32 := by rw [hy]; exact ⟨Int.emod_nonneg _ (by decide), Int.emod_lt_of_pos _ (by decide)⟩
    rw [← hy]
    obtain ⟨A1, h1⟩ : ∃ A, A = ((X.2 ((x3 + 1)).toNat).toInt) := ⟨_, rfl⟩
    obtain ⟨A2, h2⟩ : ∃ A, A = ((X.2 ((x3 + 2)).toNat).toInt) := ⟨_, rfl⟩
    obtain ⟨A3, h3⟩ : ∃ A, A = ((X.2 ((x3 + 3)).toNat).toInt) := ⟨_, rfl⟩
    obtain ⟨A4, h4⟩ : ∃ A, A = ((X.2 ((x3 + 4)).toNat).toInt) := ⟨_, rfl⟩
    have r1 : r32 A1 := by rw [h1]; exact r _
    have r2 : r32 A2 := by rw [h2]; exact r _
    have r3 : r32 A3 := by rw [h3]; exact r _
    have r4 : r32 A4 := by rw [h4]; exact r _
    rw [← h1, ← h2, ← h3, ← h4]
    clear hy h1 h2 h3 h4 r
    refine ⟨by omega, by omega, by constructor <;> omega, ?_, ?_, ?_, ?_, ?_, ?_, ?_, ?_, ?_, ?_, ?_, ?_, ?_, ?_, ?_, ?_, ?_, ?_, ?_, ?_, ?_, ?_, ?_, ?_, ?_, ?_, fun _ => nx σ α ok cs ms⟩
    · exact fun _ => ⟨g1.1, g1.2.1, g1.2.2, g2.1, g2.2.1, g2.2.2, g3.1, g3.2.1, g3.2.2, b_row r1 r2 r3 cs ok (fun σ1 o1 c1 => m_row r1 r2 r3 (ms.after o1 c1.fix) ok (fun σ2 o2 m2 => fi _ σ1 σ2 _ (o_row_r _ _ _) (ok_row ok) c1 o2 m2))⟩
    · exact fun _ => ⟨g1.1, g1.2.1, g1.2.2, b_tear r1 cs ok (fun σ1 o1 c1 => m_tear r1 (ms.after o1 c1.fix) ok (fun σ2 o2 m2 => fz _ σ1 σ2 _ (ok_tear ok) c1 o2 m2))⟩
    · exact fun _ => ⟨g1.1, g1.2.1, g1.2.2, g2.1, g2.2.1, g2.2.2, g3.1, g3.2.1, g3.2.2, r3, g4.1, g4.2.1, g4.2.2, r4, b_write r1 r2 cs ok (fun σ1 o1 c1 => m_write r1 r2 (ms.after o1 c1.fix) ok (fun σ2 o2 m2 => fi _ σ1 σ2 _ (o_write_r _ _ _) (ok_write ok (by have := r3.1; have := r3.2; constructor <;> omega)) c1 o2 m2))⟩
    · exact fun _ => ⟨g1.1, g1.2.1, g1.2.2, b_seen r1 cs ok (fun σ1 o1 c1 => m_seen r1 (ms.after o1 c1.fix) ok (fun σ2 o2 m2 => fi _ σ1 σ2 _ (o_seen_r _ _) (ok_seen ok) c1 o2 m2))⟩
    · exact fun _ => ⟨g1.1, g1.2.1, g1.2.2, g2.1, g2.2.1, g2.2.2, g3.1, g3.2.1, g3.2.2, g4.1, g4.2.1, g4.2.2, b_see r1 r2 r3 r4 cs ok (fun σ1 o1 c1 => m_see r1 r2 r3 r4 (ms.after o1 c1.fix) ok (fun σ2 o2 m2 => fi _ σ1 σ2 _ (o_see_r ok _ _ _ _) (ok_see ok) c1 o2 m2))⟩
    · exact fun _ => ⟨g1.1, g1.2.1, g1.2.2, b_drop r1 cs ok (fun σ1 o1 c1 => m_drop r1 (ms.after o1 c1.fix) ok (fun σ2 o2 m2 => fi _ σ1 σ2 _ (o_drop_r ok _) (ok_drop ok) c1 o2 m2))⟩
    · exact fun _ => ⟨g1.1, g1.2.1, g1.2.2, bk_X11_straight (b_cap r1 (by decide) cs ok (fun σ1 o1 c1 => m_straight r1 (ms.after o1 c1.fix) ok (fun σ2 o2 m2 => fi _ σ1 σ2 _ (o_cap_r ok _ _) (ok_cap ok) c1 o2 m2)))⟩
    · exact fun _ => ⟨g1.1, g1.2.1, g1.2.2, g2.1, g2.2.1, g2.2.2, bk_X11_capped (b_cap r1 r2 cs ok (fun σ1 o1 c1 => m_cap r1 r2 (ms.after o1 c1.fix) ok (fun σ2 o2 m2 => fi _ σ1 σ2 _ (o_cap_r ok _ _) (ok_cap ok) c1 o2 m2)))⟩
    · exact fun _ => ⟨g1.1, g1.2.1, g1.2.2, b_table r1 cs ok (fun σ1 o1 c1 => m_table r1 (ms.after o1 c1.fix) ok (fun σ2 o2 m2 => fi _ σ1 σ2 _ (o_table_r ok _) (ok_table ok) c1 o2 m2))⟩
    · exact fun _ => ⟨g1.1, g1.2.1, g1.2.2, g2.1, g2.2.1, g2.2.2, b_sum r1 r2 cs ok (fun σ1 o1 c1 => m_sum r1 r2 (ms.after o1 c1.fix) ok (fun σ2 o2 m2 => fi _ σ1 σ2 _ (o_sum_r ok _ _) (ok_sum ok) c1 o2 m2))⟩
    · exact fun _ => ⟨g1.1, g1.2.1, g1.2.2, g2.1, g2.2.1, g2.2.2, b_unlike r1 r2 cs ok (m_unlike r1 r2 ms ok (fi _ σ σ _ (o_unlike_r ok _ _) ok cs Ou.rfl' ms))⟩
    · exact fun _ => ⟨g1.1, g1.2.1, g1.2.2, b_use r1 cs ok (fun σ1 o1 c1 => m_use r1 (ms.after o1 c1.fix) ok (fun σ2 o2 m2 => fz _ σ1 σ2 _ (ok_use ok) c1 o2 m2))⟩
    · exact fun _ => ⟨g1.1, g1.2.1, g1.2.2, b_near r1 cs (fun σ1 o1 c1 => m_near r1 (ms.after o1 c1.fix) (fun σ2 o2 m2 => fz _ σ1 σ2 _ (ok_near ok) c1 o2 m2))⟩
    · exact fun _ => ⟨g1.1, g1.2.1, g1.2.2, g2.1, g2.2.1, g2.2.2, b_ask r1 r2 cs ok (fun σ1 o1 c1 => m_ask r1 r2 (ms.after o1 c1.fix) ok (fun σ2 o2 m2 => fi _ σ1 σ2 _ (o_ask_r _ _ _) (ok_ask ok) c1 o2 m2))⟩
    · exact fun _ => ⟨g1.1, g1.2.1, g1.2.2, b_mean r1 cs ok (fun σ1 o1 c1 => m_mean r1 (ms.after o1 c1.fix) ok (fun σ2 o2 m2 => fi _ σ1 σ2 _ (o_mean_r _ _) (ok_mean ok) c1 o2 m2))⟩
    · exact fun _ => ⟨g1.1, g1.2.1, g1.2.2, b_answer r1 cs ok (fun ni => m_answer r1 ms ok (fun _ => fz _ σ σ _ ok cs Ou.rfl' ms) (fun yi => absurd yi ni)) (fun yi σ1 u v o1 c1 lt => m_answer r1 (ms.after o1 c1.fix) ok (fun ni => absurd yi ni) (fun _ σ2 u' v' o2 m2 lt' => by
        have kr : 0 ≤ kA A1 ∧ kA A1 < 11 := by have := yi.2; have := ok.s; unfold kA; split <;> omega
        have b0 := (cs.2.2.2.2.2.1 yi.1 (kA A1) kr.1 kr.2).2.1
        have e := lowt_uniq b0 b0 rfl lt lt'
        rw [← e.1, ← e.2] at m2
        exact fz _ σ1 σ2 _ (ok_res ok lt.1) c1 o2 m2))⟩
    · exact fun _ => ⟨g1.1, g1.2.1, g1.2.2, b_leftOut r1 cs ok (fun ni σ1 c1 o1 => m_leftOut r1 (ms.after o1 c1.fix) ok (fun _ σ2 m2 o2 => fz _ σ1 σ2 _ ok c1 o2 m2) (fun yi => absurd yi ni)) (fun yi b0 σ1 u v o1 c1 lt => m_leftOut r1 (ms.after o1 c1.fix) ok (fun ni => absurd yi ni) (fun _ σ2 u' v' o2 m2 lt' => by
        have e := lowt_uniq b0 b0 rfl lt lt'
        rw [← e.1, ← e.2] at m2
        exact fz _ σ1 σ2 _ (ok_res ok lt.1) c1 o2 m2))⟩
    · exact fun _ => b_worst cs ok (fun σ1 c1 o1 => m_worst0 (ms.after o1 c1.fix) ok (fun σ2 m2 o2 => fi _ σ1 σ2 _ (by have := wres_r (l := α 0 2) ok; exact r32_of (by omega) (by omega)) ok c1 o2 m2))
    · exact fun _ => b_best cs ok (fun σ1 c1 o1 => m_best (ms.after o1 c1.fix) ok (fun σ2 m2 o2 => fi _ σ1 σ2 _ (by have := bs_r (α := α) (α 0 1).toNat; have := ok.l; exact r32_of (by omega) (by omega)) ok c1 o2 m2))
    · exact fun _ => ⟨g1.1, g1.2.1, g1.2.2, b_allowed r1 cs ok (fun ni => m_allowed r1 ms ok (fun _ => fi _ σ σ _ (by decide) ok cs Ou.rfl' ms) (fun yi => absurd yi ni)) (fun yi r σ1 c1 o1 j => m_allowed r1 (ms.after o1 c1.fix) ok (fun ni => absurd yi ni) (fun _ r' σ2 m2 o2 j' => by
        have e := jd_uniq j j'
        rw [← e]
        exact fi _ σ1 σ2 _ (jd_r j) ok c1 o2 m2))⟩
    · exact fun _ => ⟨g1.1, g1.2.1, g1.2.2, g2.1, g2.2.1, g2.2.2, b_pairs r1 r2 cs ok (m_pairs r1 r2 ms ok (fun σ2 o2 m2 => fi _ σ σ2 _ (by have := cnA_r (α := α) (f := A1) (t := A2) (α 0 0).toNat (by have := ok.s; omega); have := ok.s; exact r32_of (by omega) (by omega)) ok cs o2 m2))⟩
    · exact fun _ => ⟨g1.1, g1.2.1, g1.2.2, g2.1, g2.2.1, g2.2.2, b_band r1 r2 cs ok (fun z => m_band r1 r2 ms ok (fun _ σ2 o2 m2 => fz _ σ σ2 _ ok cs o2 m2) (fun nz => absurd z nz)) (fun nz σ1 u v o1 c1 lt => m_band r1 r2 (ms.after o1 c1.fix) ok (fun z => absurd z nz) (fun _ σ2 u' v' o2 m2 lt' => by
        have e := lowt_uniq (by omega) (by omega) rfl lt lt'
        rw [← e.1, ← e.2] at m2
        exact fz _ σ1 σ2 _ (ok_res ok lt.1) c1 o2 m2))⟩
    · exact fun _ => ⟨g1.1, g1.2.1, g1.2.2, b_look r1 cs ok (fun r j => m_look r1 ms (cs.2.2.2.2.2.2.bd cs.1.2.1) (fun r' σ2 o2 m2 j' => by
        have e := j.uniq j'
        rw [← e]
        exact fi _ σ σ2 _ j.r ok cs o2 m2))⟩
    · refine fun _ => ⟨g1.1, g1.2.1, g1.2.2, r1, fun z => ⟨g2.1, g2.2.1, g2.2.2, b_part (by decide) r2 cs (fun r j => ⟨fun _ => m_part (by decide) r2 ms (cs.2.2.2.2.2.2.bd cs.1.2.1) (fun r' σ2 o2 m2 j' => ?_), fun nz => absurd z nz⟩)⟩, fun nz => ⟨g2.1, g2.2.1, g2.2.2, b_part (by decide) r2 cs (fun r j => ⟨fun z => absurd z nz, fun _ => m_part (by decide) r2 ms (cs.2.2.2.2.2.2.bd cs.1.2.1) (fun r' σ2 o2 m2 j' => ?_)⟩)⟩⟩
      · have e := Dgt.uniq j j'
        rw [← e]
        exact fi _ σ σ2 _ (Dgt.r j) ok cs o2 m2
      · have e := Dgt.uniq j j'
        rw [← e]
        exact fi _ σ σ2 _ (Dgt.r j) ok cs o2 m2
    · exact fun _ => ⟨g1.1, g1.2.1, g1.2.2, g2.1, g2.2.1, g2.2.2, b_told r1 r2 cs ok (m_told r1 r2 ms ok (fi _ σ σ _ (o_told_r ok _ _) ok cs Ou.rfl' ms))⟩
    · exact fun _ => ⟨g1.1, g1.2.1, g1.2.2, b_count r1 cs ok (m_count r1 ms ok (fi _ σ σ _ (o_count_r ok _) ok cs Ou.rfl' ms))⟩
