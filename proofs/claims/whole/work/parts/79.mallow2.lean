theorem sgn_0 {x : Int} : 0 ≤ sgnI x ↔ 0 ≤ x := by unfold sgnI; split <;> (try split) <;> omega
theorem sgn_1 {x : Int} : 0 < sgnI x ↔ 0 < x := by unfold sgnI; split <;> (try split) <;> omega
theorem sgn_r (x : Int) : -1 ≤ sgnI x ∧ sgnI x ≤ 1 := by unfold sgnI; split <;> (try split) <;> omega
/-- the minor of a set -/
def mnr (n : Nat) (A : Nat → Nat → Int) (s : Nat) (x : Int) : Prop := ∃ d, En n s.testBit (cn s.testBit n) d ∧ x = sgnI (da (cn s.testBit n) (sub A d))
theorem mnr_all {n : Nat} {A : Nat → Nat → Int} {s h : Nat} {d : Nat → Nat} {x : Int} (m : mnr n A s x) (e : En n s.testBit h d) : x = sgnI (da h (sub A d)) := by
  obtain ⟨d', e', q⟩ := m
  have u := e'.uniq e
  rw [q]
  have : da (cn s.testBit n) (sub A d') = da (cn s.testBit n) (sub A d) := da_congr (fun i j hi hj => by unfold sub; rw [u.2 i hi, u.2 j hj])
  rw [this, u.1]
theorem mnr_psd {n : Nat} {A : Nat → Nat → Int} {s : Nat} {x : Int} (sy : Sy n A) (m : mnr n A s x) : (PSD n A → 0 ≤ x) ∧ (PD n A → 0 < x) := by
  obtain ⟨d, e, q⟩ := m
  have p := psd_sub (A := A) e.1
  have t := psd_det (sy.sub e.1)
  rw [q, sgn_0, sgn_1]
  exact ⟨fun h => t.1 (p.1 h), fun h => t.2 (p.2 h)⟩
theorem of_mnr {n : Nat} {A : Nat → Nat → Int} (sy : Sy n A) : ((∀ s, 1 ≤ s → s < 2 ^ n → ∃ x, mnr n A s x ∧ 0 ≤ x) → PSD n A) ∧ ((∀ s, 1 ≤ s → s < 2 ^ n → ∃ x, mnr n A s x ∧ 0 < x) → PD n A) := by
  constructor
  · intro hh
    refine minors_psd sy (fun h d h1 hd => ?_)
    obtain ⟨s, s1, s2, s3⟩ := bits_of h hd
    obtain ⟨x, m, x0⟩ := hh s (s2 h1) s1
    have e : En n s.testBit h d := ⟨hd, fun i _ => s3 i⟩
    rw [mnr_all m e, sgn_0] at x0
    exact x0
  · intro hh
    refine minors_pd sy (fun h d h1 hd => ?_)
    obtain ⟨s, s1, s2, s3⟩ := bits_of h hd
    obtain ⟨x, m, x0⟩ := hh s (s2 h1) s1
    have e : En n s.testBit h d := ⟨hd, fun i _ => s3 i⟩
    rw [mnr_all m e, sgn_1] at x0
    exact x0
theorem m_allowed {X : ZS} {σ α : ZM} {T : Int → ZM → Prop} {l : Int} (hl : r32 l) (ms : MS σ α) (ok : Ok α) (h0 : ¬ (0 ≤ l ∧ l < α 0 1) → T (-1) σ) (h1 : (0 ≤ l ∧ l < α 0 1) → ∀ r σ', MS σ' α → Ou 211 229 σ σ' → jd ((α 0 0).toNat - 1) (sqC (Gx α l 0)) r → T r σ') : ZC X (rX12_allowed zN) mX12_allowed [(2, 211), (0, l)] zN σ (zQi T) := by
  have s8 := ok.s
  have ms0 := ms
  obtain ⟨⟨v, nv, mv⟩, _, mg, mw, _⟩ := ms0
  refine bk_X12_allowed (m_isLaw hl ms.2.2.2.1 ok (fun l0 l1 => ⟨fun _ => ?_, fun q => (by cases q)⟩) (fun q => ⟨fun q => (by cases q), fun _ => h0 q⟩))
  by_cases S1 : α 0 0 ≤ 1
  · refine bk_X12_allowed_14 ⟨by rw [mg.1]; constructor <;> omega, fun _ => ⟨by decide, fun q => absurd q (by decide), fun _ => ?_⟩, fun q => absurd (by rw [mg.1]; exact S1) q⟩
    refine h1 ⟨l0, l1⟩ 2 σ ms Ou.rfl' (Or.inr (Or.inr ⟨rfl, ?_⟩))
    rw [show (α 0 0).toNat - 1 = 0 by omega]
    exact ⟨fun c => Int.le_refl 0, fun c hc => by obtain ⟨i, hi, _⟩ := hc; omega⟩
  · obtain ⟨n, hn⟩ : ∃ n : Nat, α 0 0 = ((n + 1 : Nat) : Int) := ⟨(α 0 0).toNat - 1, by omega⟩
    have n1 : 1 ≤ n := by omega
    have n7 : n ≤ 7 := by omega
    rw [show (α 0 0).toNat - 1 = n by omega] at h1
    obtain ⟨A, hA⟩ : ∃ A, A = sqM (Gx α l 0) n := ⟨_, rfl⟩
    have syG : Sy (n + 1) (Gx α l 0) := fun i j _ _ => Gx_comm α l 0 i j
    have sy : Sy n A := by rw [hA]; exact sy_model syG
    have z0 : ∀ i : Nat, Gx α l 0 i i = 0 := fun i => by
      unfold Gx
      rw [if_neg (fun w => w.1 rfl), wy_self, (ok.w l 0 l0 l1 (by decide) (by decide)).2 rfl]; rfl
    have fin : ∀ r τ, MS τ α → Ou 211 229 σ τ → jd n A r → T r τ := fun r τ m o j => h1 ⟨l0, l1⟩ r τ m o (jd_base syG (z0 0) (z0 n) (by rw [← hA]; exact j))
    have p128 : 2 ^ n ≤ 128 := Nat.pow_le_pow_right (by decide) n7
    have loop : ∀ (r s : Nat) (τ : ZM) (w : Int → Int) (x2 : Int), s + r = 2 ^ n → 1 ≤ s → Mw σ τ → NM τ w → Kp v w → (∀ t, 1 ≤ t → t < s → ∃ x, mnr n A t x ∧ 0 ≤ x) → (x2 = 1 ∧ (∀ t, 1 ≤ t → t < s → ∃ x, mnr n A t x ∧ 0 < x) ∨ x2 = 0 ∧ ∃ t x, mnr n A t x ∧ x ≤ 0) → Z X (rX12_allowed zN) mX12_allowed 14 [(2, 211), (0, l), (0, x2), (0, (s : Int)), (9, 0)] [] zN τ (zQi T) := by
      intro r
      induction r with
      | zero =>
        intro s τ w x2 hs s1 o nm kp all st
        have e4 : τ 211 4 = ((n + 1 : Nat) : Int) := by rw [o.2.2 4 (by decide), mg.1, hn]
        have mst : MS τ α := ms.mw o nm (kp.mv mv)
        have psd := (of_mnr sy).1 (fun t t1 t2 => all t t1 (by omega))
        refine bk_X12_allowed_14 ?_
        rw [e4, show ((n + 1 : Nat) : Int) - 1 = (n : Int) by omega, show ((n : Int)).toNat = n from rfl]
        have ep : (1 : Int) * 2 ^ n = ((2 ^ n : Nat) : Int) := by rw [Int.one_mul, Int.natCast_pow]; rfl
        rw [ep]
        refine ⟨by constructor <;> omega, fun q => absurd q (by omega), fun _ => ⟨by omega, by omega, by constructor <;> omega, by constructor <;> omega, fun _ => ⟨by rcases st with ⟨e, _⟩ | ⟨e, _⟩ <;> rw [e] <;> decide, fun q => ?_, fun q => ?_⟩, fun q => absurd (by omega) q⟩⟩
        · rcases st with ⟨e, _⟩ | ⟨_, t, x, mx, x0⟩
          · omega
          · refine fin 1 τ mst o.ou (Or.inr (Or.inl ⟨rfl, psd, fun pd => ?_⟩))
            have := (mnr_psd sy mx).2 pd
            omega
        · rcases st with ⟨_, pos⟩ | ⟨e, _⟩
          · exact fin 2 τ mst o.ou (Or.inr (Or.inr ⟨rfl, psd, (of_mnr sy).2 (fun t t1 t2 => pos t t1 (by omega))⟩))
          · exact absurd e q
      | succ r ih =>
        intro s τ w x2 hs s1 o nm kp all st
        have e4 : τ 211 4 = ((n + 1 : Nat) : Int) := by rw [o.2.2 4 (by decide), mg.1, hn]
        refine bk_X12_allowed_14 ?_
        rw [e4, show ((n + 1 : Nat) : Int) - 1 = (n : Int) by omega, show ((n : Int)).toNat = n from rfl]
        have ep : (1 : Int) * 2 ^ n = ((2 ^ n : Nat) : Int) := by rw [Int.one_mul, Int.natCast_pow]; rfl
        rw [ep]
        refine ⟨by constructor <;> omega, fun q => absurd q (by omega), fun _ => ⟨by omega, by omega, by constructor <;> omega, by constructor <;> omega, fun q => absurd q (by omega), fun _ => ?_⟩⟩
        refine m_minor nm (mg.mw o) (mw.mw o) ok l0 l1 hn (by omega) (fun σ' w' d o' n' k' e => ?_)
        have mx : mnr n A s (sgnI (da (cn s.testBit n) (sub (sqM (Gx α l 0) n) d))) := ⟨d, e, by rw [hA]⟩
        obtain ⟨x, hx⟩ : ∃ x, x = sgnI (da (cn s.testBit n) (sub (sqM (Gx α l 0) n) d)) := ⟨_, rfl⟩
        rw [← hx] at mx ⊢
        have xr : -1 ≤ x ∧ x ≤ 1 := by rw [hx]; exact sgn_r _
        have o2 := o.trans o'
        have k2 := kp.trans k'
        refine ⟨by constructor <;> omega, fun x0 => ?_, fun x0 => ?_⟩
        · have all' : ∀ t, 1 ≤ t → t < s + 1 → ∃ x, mnr n A t x ∧ 0 ≤ x := fun t t1 t2 => by
            by_cases q : t = s
            · subst q; exact ⟨x, mx, x0⟩
            · exact all t t1 (by omega)
          refine ⟨by rcases st with ⟨e, _⟩ | ⟨e, _⟩ <;> rw [e] <;> decide, fun q => ?_, fun q => ⟨fun q2 => ?_, fun q2 => ?_⟩⟩
          · rcases st with ⟨e, _⟩ | ⟨_, b⟩
            · omega
            · exact ih (s + 1) σ' w' 0 (by omega) (by omega) o2 n' k2 all' (Or.inr ⟨rfl, b⟩)
          · exact ih (s + 1) σ' w' 0 (by omega) (by omega) o2 n' k2 all' (Or.inr ⟨rfl, s, x, mx, q2⟩)
          · rcases st with ⟨_, pos⟩ | ⟨e, _⟩
            · refine ih (s + 1) σ' w' 1 (by omega) (by omega) o2 n' k2 all' (Or.inl ⟨rfl, fun t t1 t2 => ?_⟩)
              by_cases q3 : t = s
              · subst q3; exact ⟨x, mx, by omega⟩
              · exact pos t t1 (by omega)
            · exact absurd e q
        · refine fin 0 σ' (ms.mw o2 n' (k2.mv mv)) o2.ou (Or.inl ⟨rfl, fun p => ?_⟩)
          have := (mnr_psd sy mx).1 p
          omega
    have tp := Nat.two_pow_pos n
    exact loop (2 ^ n - 1) 1 σ v 1 (by omega) (Nat.le_refl _) Mw.rfl' nv Kp.rfl' (fun t t1 t2 => by omega) (Or.inl ⟨rfl, fun t t1 t2 => by omega⟩)
