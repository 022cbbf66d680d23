/-- nearer in the order of ways, then of places -/
def ky (F : Int → Int) (j i : Nat) : Prop := F j < F i ∨ F j = F i ∧ (j : Int) < (i : Int)
theorem rk_le {F : Int → Int} {i j : Nat} (h : ky F j i) : ∀ m : Nat, rk F j m + (if j < m then 1 else 0) ≤ rk F i m
  | 0 => by rw [if_neg (by omega)]; exact Int.le_refl _
  | m + 1 => by
    have ih := rk_le h m
    show rk F j m + (if F m < F j ∨ F m = F j ∧ (m : Int) < (j : Int) then 1 else 0) + _ ≤ rk F i m + (if F m < F i ∨ F m = F i ∧ (m : Int) < (i : Int) then 1 else 0)
    unfold ky at h
    by_cases q : m = j
    · subst q
      rw [if_neg (Nat.lt_irrefl m)] at ih
      split <;> split <;> (try split) <;> omega
    · split at ih <;> split <;> (try split) <;> (try split) <;> omega
theorem rk_lt {F : Int → Int} {i j n : Nat} (h : ky F j i) (hj : j < n) : rk F j n < rk F i n := by
  have := rk_le h n
  rw [if_pos hj] at this
  omega
theorem ky_tri (F : Int → Int) (i j : Nat) : ky F i j ∨ i = j ∨ ky F j i := by unfold ky; omega
theorem rk_inj {F : Int → Int} {i j n : Nat} (hi : i < n) (hj : j < n) (e : rk F i n = rk F j n) : i = j := by
  rcases ky_tri F i j with w | w | w
  · have := rk_lt w hi; omega
  · exact w
  · have := rk_lt w hj; omega
theorem ky_of {F : Int → Int} {i j n : Nat} (hi : i < n) (h : rk F j n < rk F i n) : ky F j i := by
  rcases ky_tri F j i with w | w | w
  · exact w
  · subst w; omega
  · have := rk_lt w hi; omega
theorem rk_self {F : Int → Int} {i : Nat} : ∀ m : Nat, rk F i m + (if i < m then 1 else 0) ≤ m
  | 0 => by rw [if_neg (by omega)]; exact Int.le_refl _
  | m + 1 => by
    have ih := rk_self (F := F) (i := i) m
    show rk F i m + (if F m < F i ∨ F m = F i ∧ (m : Int) < (i : Int) then 1 else 0) + _ ≤ ((m + 1 : Nat) : Int)
    by_cases q : m = i
    · subst q
      rw [if_neg (Nat.lt_irrefl m)] at ih
      split <;> (try split) <;> omega
    · split at ih <;> split <;> (try split) <;> omega
theorem rk_top {F : Int → Int} {i n : Nat} (h : i < n) : 0 ≤ rk F i n ∧ rk F i n < n := by
  have a := rk_self (F := F) (i := i) n
  rw [if_pos h] at a
  have b := rk_r (F := F) (i := i) n
  omega
theorem cn_congr {T U : Nat → Bool} : ∀ {n : Nat}, (∀ i, i < n → T i = U i) → cn T n = cn U n
  | 0, _ => rfl
  | n + 1, h => by
    show cn T n + _ = cn U n + _
    rw [cn_congr (fun i hi => h i (by omega)), h n (by omega)]
theorem cn_add {T U : Nat → Bool} {b : Nat} (hb : T b = false) (hu : ∀ i, U i = true ↔ T i = true ∨ i = b) : ∀ n : Nat, cn U n = cn T n + (if b < n then 1 else 0)
  | 0 => by rw [if_neg (by omega)]; rfl
  | n + 1 => by
    have ih := cn_add hb hu n
    show cn U n + (if U n then 1 else 0) = cn T n + (if T n then 1 else 0) + _
    rw [ih]
    by_cases q : n = b
    · subst q
      have : U n = true := (hu n).mpr (Or.inr rfl)
      rw [this, hb, if_neg (Nat.lt_irrefl n), if_pos (Nat.lt_succ_self n)]
      rfl
    · have e : U n = T n := by
        cases ht : T n with
        | true => exact (hu n).mpr (Or.inl ht)
        | false =>
          cases hv : U n with
          | false => rfl
          | true => rcases (hu n).mp hv with w | w
                    · rw [ht] at w; cases w
                    · exact absurd w q
      rw [e]
      have : (if b < n + 1 then 1 else 0) = if b < n then 1 else 0 := by
        by_cases q2 : b < n
        · rw [if_pos q2, if_pos (by omega)]
        · rw [if_neg q2, if_neg (by omega)]
      rw [this]; omega
theorem cn_full {T : Nat → Bool} : ∀ {n : Nat}, (∀ i, i < n → T i = true) → cn T n = n
  | 0, _ => rfl
  | n + 1, h => by
    show cn T n + _ = n + 1
    rw [cn_full (fun i hi => h i (by omega)), h n (by omega)]; rfl
theorem rk_cn {F : Int → Int} {i : Nat} : ∀ n : Nat, rk F i n = (cn (fun j => decide (F j < F i ∨ F j = F i ∧ (j : Int) < (i : Int))) n : Nat)
  | 0 => rfl
  | n + 1 => by
    show rk F i n + (if F n < F i ∨ F n = F i ∧ (n : Int) < (i : Int) then 1 else 0) = ((cn (fun j => decide (F j < F i ∨ F j = F i ∧ (j : Int) < (i : Int))) n + (if decide (F n < F i ∨ F n = F i ∧ (n : Int) < (i : Int)) = true then 1 else 0) : Nat) : Int)
    rw [rk_cn n]
    by_cases q : F n < F i ∨ F n = F i ∧ (n : Int) < (i : Int)
    · rw [if_pos q, if_pos (decide_eq_true q)]; rfl
    · rw [if_neg q, decide_eq_false q]; rfl
theorem m_ways {X : ZS} {σ α : ZM} {T : Int → ZM → Prop} {s q : Nat} {f g : Int → Int} (hf : Fix σ) (mg : MG σ α) (ok : Ok α) (hs : (s : Int) < α 0 0) (Q : MPl σ q f g) (h : T (sw (α 1 s) (α 2 s) f g q) σ) : ZC X (rX12_ways zN) mX12_ways [(2, 211), (0, (s : Int))] zN σ (zQi T) := by
  have s8 := ok.s
  have q6 := Q.2.1
  have gs := mg.2 s (by omega) hs
  have os := ok.g s (by omega) hs
  have loop : ∀ (r j : Nat), j + r = q → Z X (rX12_ways zN) mX12_ways 4 [(2, 211), (0, (s : Int)), (0, sw (α 1 s) (α 2 s) f g j), (0, (j : Int))] [] zN σ (zQi T) := by
    intro r
    induction r with
    | zero =>
      intro j hj
      have : j = q := by omega
      subst this
      exact bk_X12_ways_4 ⟨by constructor <;> omega, by rw [Q.1]; constructor <;> omega, fun _ => h, fun q => absurd (by rw [Q.1]; exact Int.le_refl _) q⟩
    | succ r ih =>
      intro j hj
      have qj := Q.2.2 j (by omega) (by omega)
      refine bk_X12_ways_4 ⟨by constructor <;> omega, by rw [Q.1]; constructor <;> omega, fun q => absurd q (by rw [Q.1]; omega), fun _ => ⟨hf, by omega, by omega, by omega, by omega, ?_⟩⟩
      rw [gs.1, gs.2.1, qj.1, qj.2.1]
      exact m_way os.1 os.2.1 qj.2.2.1 qj.2.2.2 (ih (j + 1) (by omega))
  exact bk_X12_ways (loop q 0 (by omega))
def Mc (σ σ' : ZM) : Prop := (∀ c : Int, c ≠ 211 → c ≠ 228 → c ≠ 229 → σ' c = σ c) ∧ ∀ i : Int, i ≠ 26 → σ' 211 i = σ 211 i
def Bst (F : Int → Int) (n : Nat) (t : Nat) (i : Nat) (x : Int) : Prop := x = -1 ∧ (∀ s : Nat, s < i → rk F s n < t) ∨ ∃ b : Nat, x = b ∧ b < i ∧ ¬ rk F b n < t ∧ ∀ s : Nat, s < i → ¬ rk F s n < t → ¬ ky F s b
theorem Bst.r {F : Int → Int} {n t i : Nat} {x : Int} (h : Bst F n t i x) : -1 ≤ x ∧ x < i := by
  rcases h with ⟨w, _⟩ | ⟨b, w, w2, _⟩
  · subst w; exact ⟨Int.le_refl _, by omega⟩
  · subst w; exact ⟨by omega, by omega⟩
theorem m_choose {X : ZS} {σ α : ZM} {T : ZM → Prop} {q : Nat} {f g : Int → Int} (hf : Fix σ) (mg : MG σ α) (mm : MM σ α) (ok : Ok α) (S1 : 1 ≤ α 0 0) (Q : MPl σ q f g)
    (h : ∀ σ' k d, Fix σ' → Mc σ σ' → Ord (nC α f g q) k d → MD σ' α k d → 1 ≤ k → T σ') : ZC X (rX12_choose zN) mX12_choose [(2, 211)] zN σ (zQv T) := by
  have s8 := ok.s
  have nr := ok.n
  obtain ⟨n, hn⟩ : ∃ n, n = (α 0 0).toNat := ⟨_, rfl⟩
  obtain ⟨F, hF⟩ : ∃ F : Int → Int, F = fun s => sw (α 1 s) (α 2 s) f g q := ⟨_, rfl⟩
  have hC : ∀ s, nC α f g q s = decide (s < n ∧ rk F s n < α 0 3) := fun s => by rw [hn, hF]; rfl
  have Fr : ∀ s : Nat, s < n → r32 (F s) := fun s hs => by
    have os := ok.g s (by omega) (by omega)
    have := sm_rng (F := fun j : Nat => wyp (α 1 s) (α 2 s) (f j) (g j)) (B := 80) (by decide) (n := q) (fun j hj => by
      have qj := Q.2.2 j (by omega) (by omega)
      exact wyp_r os.1 os.2.1 qj.2.2.1 qj.2.2.2)
    have q6 := Q.2.1
    rw [hF]
    show r32 (sm (fun j : Nat => wyp (α 1 s) (α 2 s) (f j) (g j)) q)
    constructor <;> omega
  have pre : ∀ {τ : ZM}, Mc σ τ → MG τ α ∧ MPl τ q f g ∧ τ 211 4 = (n : Int) ∧ τ 211 12 = α 0 3 := fun {τ} o => by
    refine ⟨mg.fr (o.2 4 (by decide)) (fun c _ _ => o.1 c (by omega) (by omega) (by omega)) rfl rfl rfl rfl rfl, ?_, by rw [o.2 4 (by decide), mg.1]; omega, by rw [o.2 12 (by decide)]; exact mm.2.1⟩
    unfold MPl at Q ⊢
    rw [o.2 23 (by decide), o.1 226 (by decide) (by decide) (by decide), o.1 227 (by decide) (by decide) (by decide)]; exact Q
  -- one is chosen after the other
  have main : ∀ (r t : Nat) (τ : ZM) (d : Nat → Nat), t + r = n → Fix τ → Mc σ τ → τ 211 26 = (t : Int) → (t : Int) ≤ α 0 3 → (∀ s : Nat, s < n → τ 229 (s : Int) = if rk F s n < t then 1 else 0) → (∀ a, a < t → τ 228 (a : Int) = (d a : Nat) ∧ d a < n ∧ rk F (d a) n = a) → cn (fun s => decide (rk F s n < t)) n = t → Z X (rX12_choose zN) mX12_choose 30 [(2, 211), (2, 229), (9, 0), (9, 0)] [] zN τ (zQv T) := by
    intro r
    induction r with
    | zero =>
      intro t τ d ht ft o e26 tm tk dd ct
      obtain ⟨mgt, Qt, e4, e12⟩ := pre o
      have fin : T τ := by
        refine h τ t d ft o ⟨fun a ha => ?_, fun a b ha hb e => ?_, fun s hs cs => ?_⟩ ⟨e26, by omega, fun a ha => ⟨(dd a ha).1, by have := (dd a ha).2.1; omega⟩, fun a b ha hb e => ?_⟩ (by omega)
        · have x := dd a ha
          refine ⟨by omega, ?_⟩
          rw [hC]; exact decide_eq_true ⟨x.2.1, by omega⟩
        · have x := (dd a ha).2.2
          have y := (dd b hb).2.2
          rw [e] at x; omega
        · rw [hC] at cs
          have cs := of_decide_eq_true cs
          have rt := rk_top (F := F) cs.1
          obtain ⟨a, ha⟩ : ∃ a : Nat, rk F s n = a := ⟨(rk F s n).toNat, by omega⟩
          have x := dd a (by omega)
          exact ⟨a, by omega, rk_inj x.2.1 cs.1 (by rw [x.2.2, ha])⟩
        · have x := (dd a ha).2.2
          have y := (dd b hb).2.2
          rw [e] at x; omega
      refine bk_X12_choose_30 la_229 ⟨by rw [e26]; constructor <;> omega, by rw [e12]; constructor <;> omega, fun _ => fin, fun q => ⟨by rw [e4]; constructor <;> omega, fun _ => fin, fun q2 => absurd (by rw [e4, e26]; omega) q2⟩⟩
    | succ r ih =>
      intro t τ d ht ft o e26 tm tk dd ct
      obtain ⟨mgt, Qt, e4, e12⟩ := pre o
      by_cases tm2 : (t : Int) = α 0 3
      · refine bk_X12_choose_30 la_229 ⟨by rw [e26]; constructor <;> omega, by rw [e12]; constructor <;> omega, fun _ => ?_, fun q => absurd (by rw [e12, e26]; omega) q⟩
        refine h τ t d ft o ⟨fun a ha => ?_, fun a b ha hb e => ?_, fun s hs cs => ?_⟩ ⟨e26, by omega, fun a ha => ⟨(dd a ha).1, by have := (dd a ha).2.1; omega⟩, fun a b ha hb e => ?_⟩ (by omega)
        · have x := dd a ha
          refine ⟨by omega, ?_⟩
          rw [hC]; exact decide_eq_true ⟨x.2.1, by omega⟩
        · have x := (dd a ha).2.2
          have y := (dd b hb).2.2
          rw [e] at x; omega
        · rw [hC] at cs
          have cs := of_decide_eq_true cs
          have rt := rk_top (F := F) cs.1
          obtain ⟨a, ha⟩ : ∃ a : Nat, rk F s n = a := ⟨(rk F s n).toNat, by omega⟩
          have x := dd a (by omega)
          exact ⟨a, by omega, rk_inj x.2.1 cs.1 (by rw [x.2.2, ha])⟩
        · have x := (dd a ha).2.2
          have y := (dd b hb).2.2
          rw [e] at x; omega
      · -- look for the nearest of those left
        have scan : ∀ (e i : Nat) (x2 : Int), i + e = n → Bst F n t i x2 → Z X (rX12_choose zN) mX12_choose 56 [(2, 211), (2, 229), (0, x2), (0, (i : Int))] [] zN τ (zQv T) := by
          intro e
          induction e with
          | zero =>
            intro i x2 hi hb
            have : i = n := by omega
            subst this
            rcases hb with ⟨_, all⟩ | ⟨b, eb, bi, nb, mn⟩
            · have := cn_full (T := fun s => decide (rk F s i < t)) (n := i) (fun s hs => decide_eq_true (all s hs))
              omega
            · subst eb
              -- its rank is t
              have rb : rk F b i = t := by
                rw [rk_cn]
                have : cn (fun j => decide (F j < F b ∨ F j = F b ∧ (j : Int) < (b : Int))) i = cn (fun s => decide (rk F s i < t)) i := cn_congr (fun j hj => by
                  by_cases q : rk F j i < t
                  · have k : ky F j b := ky_of bi (by omega)
                    rw [decide_eq_true q, decide_eq_true (show F j < F b ∨ F j = F b ∧ (j : Int) < (b : Int) from k)]
                  · have k := mn j hj q
                    rw [decide_eq_false q, decide_eq_false (show ¬ (F j < F b ∨ F j = F b ∧ (j : Int) < (b : Int)) from k)])
                rw [this, ct]
              refine bk_X12_choose_56 la_229 ⟨by constructor <;> omega, by rw [e4]; constructor <;> omega, fun _ => ?_, fun q => absurd (by rw [e4]; exact Int.le_refl _) q⟩
              rw [e26]
              refine ⟨by omega, by omega, ft, by omega, by omega, ?_⟩
              refine ih (t + 1) _ (fun a => if a = t then b else d a) (by omega) (((ft.upA la_229 (by decide)).upA la_228 (by decide)).upF la_211 26 (by decide +kernel)) ⟨fun c c1 c2 c3 => ?_, fun k hk => ?_⟩ (by rw [z_up_same]; rfl) (by omega) (fun s hs => ?_) (fun a ha => ?_) ?_
              · rw [z_up_far _ _ _ c1, z_up_far _ _ _ c2, z_up_far _ _ _ c3]; exact o.1 c c1 c2 c3
              · rw [z_up_ne _ (Or.inr hk), z_up_far _ _ _ (by decide), z_up_far _ _ _ (by decide)]; exact o.2 k hk
              · rw [z_up_far _ _ _ (by decide), z_up_far _ _ _ (by decide), z_up_row]
                by_cases q : s = b
                · subst q; rw [fu_s, if_pos (by omega)]
                · have ne : rk F s i ≠ t := fun w => q (rk_inj (F := F) hs bi (by omega))
                  rw [fu_n _ _ (by omega), tk s hs]
                  by_cases q2 : rk F s i < t
                  · rw [if_pos q2, if_pos (by omega)]
                  · rw [if_neg q2, if_neg (by omega)]
              · rw [z_up_far _ _ _ (by decide), z_up_row]
                by_cases q : a = t
                · subst q
                  show fu _ _ _ (a : Int) = ((if a = a then b else d a : Nat) : Int) ∧ (if a = a then b else d a) < i ∧ rk F ((if a = a then b else d a : Nat) : Int) i = a
                  rw [fu_s, if_pos rfl]; exact ⟨rfl, bi, rb⟩
                · show fu _ _ _ (a : Int) = ((if a = t then b else d a : Nat) : Int) ∧ (if a = t then b else d a) < i ∧ rk F ((if a = t then b else d a : Nat) : Int) i = a
                  rw [fu_n _ _ (by omega), if_neg q, z_up_far _ _ _ (by decide)]
                  exact dd a (by omega)
              · have ca := cn_add (T := fun s => decide (s < i ∧ rk F s i < t)) (U := fun s => decide (s < i ∧ rk F s i < ((t + 1 : Nat) : Int))) (b := b) (decide_eq_false (fun w => nb w.2)) (fun s => by
                  rw [decide_eq_true_iff, decide_eq_true_iff]
                  constructor
                  · rintro ⟨h1, h2⟩
                    by_cases q : rk F s i < t
                    · exact Or.inl ⟨h1, q⟩
                    · exact Or.inr (rk_inj (F := F) h1 bi (by omega))
                  · rintro (⟨h1, h2⟩ | h1)
                    · exact ⟨h1, by omega⟩
                    · subst h1; exact ⟨bi, by omega⟩) i
                rw [if_pos bi] at ca
                have x1 : cn (fun s => decide (s < i ∧ rk F s i < t)) i = cn (fun s => decide (rk F s i < t)) i := cn_congr (fun s hs => by
                  by_cases q : rk F s i < t
                  · rw [decide_eq_true q, decide_eq_true ⟨hs, q⟩]
                  · rw [decide_eq_false q, decide_eq_false (fun w => q w.2)])
                have x2 : cn (fun s => decide (s < i ∧ rk F s i < ((t + 1 : Nat) : Int))) i = cn (fun s => decide (rk F s i < ((t + 1 : Nat) : Int))) i := cn_congr (fun s hs => by
                  by_cases q : rk F s i < ((t + 1 : Nat) : Int)
                  · rw [decide_eq_true q, decide_eq_true ⟨hs, q⟩]
                  · rw [decide_eq_false q, decide_eq_false (fun w => q w.2)])
                rw [x1, x2, ct] at ca
                exact ca
          | succ e ih2 =>
            intro i x2 hi hb
            have ti := tk i (by omega)
            have rx : r32 x2 := by have := hb.r; constructor <;> omega
            refine bk_X12_choose_56 la_229 ⟨by constructor <;> omega, by rw [e4]; constructor <;> omega, fun q => absurd q (by rw [e4]; omega), fun _ => ?_⟩
            rw [ti]
            have keep : rk F i n < t → Z X (rX12_choose zN) mX12_choose 56 [(2, 211), (2, 229), (0, x2), (0, ((i : Int) + 1))] [] zN τ (zQv T) := fun ri => by
              refine ih2 (i + 1) x2 (by omega) ?_
              rcases hb with ⟨w, all⟩ | ⟨b, w, w2, w3, w4⟩
              · refine Or.inl ⟨w, fun s hs => ?_⟩
                by_cases q : s = i
                · subst q; exact ri
                · exact all s (by omega)
              · refine Or.inr ⟨b, w, by omega, w3, fun s hs ns => ?_⟩
                by_cases q : s = i
                · subst q; exact absurd ri ns
                · exact w4 s (by omega) ns
            have new : ¬ rk F i n < t → (∀ s : Nat, s < i → ¬ rk F s n < t → ¬ ky F s i) → Z X (rX12_choose zN) mX12_choose 56 [(2, 211), (2, 229), (0, (i : Int)), (0, ((i : Int) + 1))] [] zN τ (zQv T) := fun ri mn => by
              refine ih2 (i + 1) i (by omega) (Or.inr ⟨i, rfl, by omega, ri, fun s hs ns => ?_⟩)
              by_cases q : s = i
              · subst q; unfold ky; omega
              · exact mn s (by omega) ns
            refine ⟨by omega, by omega, by split <;> decide, fun qz => ?_, fun qz => ⟨rx, fun q2 => ?_, fun q2 => ?_⟩⟩
            · refine keep ?_
              apply Classical.byContradiction
              intro w
              rw [if_neg w] at qz
              exact qz rfl
            · have ri : ¬ rk F i n < t := fun w => by rw [if_pos w] at qz; cases qz
              rcases hb with ⟨_, all⟩ | ⟨b, w, _⟩
              · exact new ri (fun s hs ns => absurd (all s hs) ns)
              · omega
            · have ri : ¬ rk F i n < t := fun w => by rw [if_pos w] at qz; cases qz
              rcases hb with ⟨w, _⟩ | ⟨b, w, w2, w3, w4⟩
              · exact absurd w q2
              · subst w
                refine m_ways ft mgt ok (by omega) Qt (m_ways ft mgt ok (by omega) Qt ?_)
                have fi : sw (α 1 (i : Nat)) (α 2 (i : Nat)) f g q = F i := by rw [hF]
                have fb : sw (α 1 (b : Nat)) (α 2 (b : Nat)) f g q = F b := by rw [hF]
                rw [fi, fb]
                refine ⟨Fr i (by omega), Fr b (by omega), fun q3 => ?_, fun q3 => ?_⟩
                · refine ih2 (i + 1) b (by omega) (Or.inr ⟨b, rfl, by omega, w3, fun s hs ns => ?_⟩)
                  by_cases q4 : s = i
                  · subst q4; unfold ky; omega
                  · exact w4 s (by omega) ns
                · refine new ri (fun s hs ns => ?_)
                  have := w4 s hs ns
                  unfold ky at this ⊢
                  omega
        exact bk_X12_choose_30 la_229 ⟨by rw [e26]; constructor <;> omega, by rw [e12]; constructor <;> omega, fun q => absurd q (by rw [e12, e26]; omega), fun q => ⟨by rw [e4]; constructor <;> omega, fun q2 => absurd q2 (by rw [e4, e26]; omega), fun _ => scan n 0 (-1) (by omega) (Or.inl ⟨rfl, fun s hs => by omega⟩)⟩⟩
  have init : ∀ (r i : Nat) (τ : ZM), i + r = n → Fix τ → Mc σ τ → τ 211 26 = 0 → (∀ s : Nat, s < i → τ 229 (s : Int) = 0) → Z X (rX12_choose zN) mX12_choose 12 [(2, 211), (2, 229), (0, (i : Int)), (9, 0)] [] zN τ (zQv T) := by
    intro r
    induction r with
    | zero =>
      intro i τ hi ft o e26 tz
      have : i = n := by omega
      subst this
      obtain ⟨_, _, e4, _⟩ := pre o
      refine bk_X12_choose_12 la_229 ⟨by constructor <;> omega, by rw [e4]; constructor <;> omega, fun _ => ?_, fun q => absurd (by rw [e4]; exact Int.le_refl _) q⟩
      refine main i 0 τ (fun _ => 0) (by omega) ft o e26 (by omega) (fun s hs => ?_) (fun a ha => by omega) ?_
      · have := rk_top (F := F) hs
        rw [if_neg (by omega)]; exact tz s hs
      · have : ∀ m, m ≤ i → cn (fun s => decide (rk F s i < ((0 : Nat) : Int))) m = 0 := by
          intro m
          induction m with
          | zero => intro _; rfl
          | succ m ihm =>
            intro hm
            show cn _ m + (if decide (rk F m i < ((0 : Nat) : Int)) = true then 1 else 0) = 0
            have := rk_top (F := F) (i := m) (n := i) (by omega)
            rw [ihm (by omega), decide_eq_false (by omega)]; rfl
        exact this i (Nat.le_refl _)
    | succ r ih =>
      intro i τ hi ft o e26 tz
      obtain ⟨_, _, e4, _⟩ := pre o
      refine bk_X12_choose_12 la_229 ⟨by constructor <;> omega, by rw [e4]; constructor <;> omega, fun q => absurd q (by rw [e4]; omega), fun _ => ⟨by omega, by omega, ?_⟩⟩
      refine ih (i + 1) _ (by omega) (ft.upA la_229 (by decide)) ⟨fun c c1 c2 c3 => by rw [z_up_far _ _ _ c3]; exact o.1 c c1 c2 c3, fun k hk => by rw [z_up_far _ _ _ (by decide)]; exact o.2 k hk⟩ (by rw [z_up_far _ _ _ (by decide)]; exact e26) (fun s hs => ?_)
      rw [z_up_row]
      by_cases q : s = i
      · subst q; rw [fu_s]
      · rw [fu_n _ _ (by omega)]; exact tz s (by omega)
  exact bk_X12_choose ⟨hf, init n 0 _ (by omega) (hf.upF la_211 26 (by decide +kernel)) ⟨fun c c1 _ _ => z_up_far _ _ _ c1, fun k hk => z_up_ne _ (Or.inr hk)⟩ (z_up_same _ _ _ _) (fun s hs => by omega)⟩
