theorem m_drop {X : ZS} {σ α : ZM} {T : Int → ZM → Prop} {i : Int} (hi : r32 i) (ms : MS σ α) (ok : Ok α) (h : ∀ σ', Ou 211 229 σ σ' → MS σ' (s_drop α i) → T (o_drop α i) σ') : ZC X (rX12_drop zN) mX12_drop [(2, 211), (0, i)] zN σ (zQi T) := by
  have hf := ms.fix
  have s8 := ok.s
  obtain ⟨g2, g3⟩ := ms.2.2.1
  refine bk_X12_drop (m_isSeen hi ms.2.2.1 ok (fun i0 i1 => ⟨fun _ => ?_, fun q => (by cases q)⟩) (fun q => ⟨fun q => (by cases q), fun _ => ?_⟩))
  · have eo : o_drop α i = α 0 0 - 1 := by unfold o_drop; rw [if_pos ⟨i0, i1⟩]
    unfold s_drop at h
    rw [eo, if_pos (by omega)] at h
    rw [g2]
    obtain ⟨σ0, hσ0⟩ : ∃ σ0 : ZM, σ0 = z_up σ 211 4 (α 0 0 - 1) := ⟨_, rfl⟩
    rw [← hσ0]
    have e4 : σ0 211 4 = α 0 0 - 1 := by rw [hσ0, z_up_same]
    have far0 : ∀ c : Int, c ≠ 211 → σ0 c = σ c := fun c hc => by rw [hσ0, z_up_far _ _ _ hc]
    have loop : ∀ (l : Nat) (j : Int) (τ : ZM), i ≤ j → j + l = α 0 0 - 1 → Fix τ → (∀ c : Int, c < 216 ∨ 219 < c → τ c = σ0 c) → τ 216 = mvd (σ 216) i (j + 1) → τ 217 = mvd (σ 217) i (j + 1) → τ 218 = mvd (σ 218) i (j + 1) → τ 219 = mvd (σ 219) i (j + 1) → Z X (rX12_drop zN) mX12_drop 23 [(2, 211), (9, 0), (0, j)] [] zN τ (zQi T) := by
      intro l
      induction l with
      | zero =>
        intro j τ ij hj f o t1 t2 t3 t4
        have t0 : τ 211 4 = α 0 0 - 1 := by rw [o 211 (by decide), e4]
        refine bk_X12_drop_23 ⟨by constructor <;> omega, by rw [t0]; constructor <;> omega, fun _ => ?_, fun q => absurd (by omega) q⟩
        rw [t0]
        refine h _ (fun c hc => by rw [z_up_far _ _ _ (by omega), o c (by omega), far0 c (by omega)]) (ms.sights (f.upF la_211 13 (by decide +kernel)) (fun c c1 _ hc => by rw [z_up_far _ _ _ c1, o c hc, far0 c c1]) (fun k k4 k13 => ?_) (z_up_same _ _ _ _) rfl rfl rfl rfl (fun c c5 => ?_) ⟨?_, fun k k0 k1 => ?_⟩)
        · rw [z_up_ne _ (Or.inr k13), o 211 (by decide), hσ0, z_up_ne _ (Or.inr k4)]
        · unfold sg_drop
          rw [rp_n _ _ (by omega), rp_n _ _ (by omega), rp_n _ _ (by omega), rp_n _ _ (by omega), rp_n _ _ (by omega)]
        · rw [z_up_ne _ (Or.inr (by decide)), t0]; rfl
        · have k1 : k < α 0 0 - 1 := k1
          rw [z_up_far _ _ _ (by decide), z_up_far _ _ _ (by decide), z_up_far _ _ _ (by decide), z_up_far _ _ _ (by decide), t1, t2, t3, t4, mvd_e (by omega), mvd_e (by omega), mvd_e (by omega), mvd_e (by omega)]
          show shd (σ 216) i k = shd (α 1) i k ∧ shd (σ 217) i k = shd (α 2) i k ∧ shd (σ 218) i k = shd (α 3) i k ∧ shd (σ 219) i k = shd (α 4) i k
          unfold shd
          by_cases w : k < i
          · rw [if_pos w, if_pos w, if_pos w, if_pos w, if_pos w, if_pos w, if_pos w, if_pos w]; exact g3 k k0 (by omega)
          · rw [if_neg w, if_neg w, if_neg w, if_neg w, if_neg w, if_neg w, if_neg w, if_neg w]; exact g3 (k + 1) (by omega) (by omega)
      | succ l ih =>
        intro j τ ij hj f o t1 t2 t3 t4
        have t0 : τ 211 4 = α 0 0 - 1 := by rw [o 211 (by decide), e4]
        have st : ∀ g : Int → Int, fu (mvd g i (j + 1)) j (mvd g i (j + 1) (j + 1)) = mvd g i (j + 1 + 1) := fun g => by
          have := mvd_st (f := g) (i := i) (j := j + 1) (by omega)
          rw [show j + 1 - 1 = j by omega] at this; exact this
        refine bk_X12_drop_23 ⟨by constructor <;> omega, by rw [t0]; constructor <;> omega, fun q => absurd q (by omega), fun _ => ⟨f, by omega, by omega, by omega, by omega, ?_⟩⟩
        refine ih (j + 1) _ (by omega) (by omega) ((((f.upA la_216 (by decide)).upA la_217 (by decide)).upA la_218 (by decide)).upA la_219 (by decide)) (fun c hc => by rw [z_up_far _ _ _ (by omega), z_up_far _ _ _ (by omega), z_up_far _ _ _ (by omega), z_up_far _ _ _ (by omega)]; exact o c hc) ?_ ?_ ?_ ?_
        · rw [z_up_far _ _ _ (by decide), z_up_far _ _ _ (by decide), z_up_far _ _ _ (by decide), z_up_row, t1, st]
        · rw [z_up_far _ _ _ (by decide), z_up_far _ _ _ (by decide), z_up_row, z_up_far _ _ _ (by decide), t2, st]
        · rw [z_up_far _ _ _ (by decide), z_up_row, z_up_far _ _ _ (by decide), z_up_far _ _ _ (by decide), t3, st]
        · rw [z_up_row, z_up_far _ _ _ (by decide), z_up_far _ _ _ (by decide), z_up_far _ _ _ (by decide), t4, st]
    exact loop (α 0 0 - 1 - i).toNat i σ0 (Int.le_refl _) (by omega) (by rw [hσ0]; exact hf.upF la_211 4 (by decide +kernel)) (fun _ _ => rfl) (by rw [far0 _ (by decide), mvd_0]) (by rw [far0 _ (by decide), mvd_0]) (by rw [far0 _ (by decide), mvd_0]) (by rw [far0 _ (by decide), mvd_0])
  · have eo : o_drop α i = -2 := by unfold o_drop; rw [if_neg q]
    unfold s_drop at h
    rw [eo, if_neg (by decide)] at h
    exact h σ Ou.rfl' ms
/-! told, count -/
def o_told (α : ZM) (i w : Int) : Int := if 0 ≤ i ∧ i < α 0 0 then (if w = 0 then α 1 i else if w = 1 then α 2 i else if w = 2 then α 3 i else if w = 3 then α 4 i else -10000) else -10000
theorem b_told {X : ZS} {σ α : ZM} {T : Int → ZM → Prop} {i w : Int} (hi : r32 i) (hw : r32 w) (cs : CS σ α) (ok : Ok α) (h : T (o_told α i w) σ) : ZC X (rX11_told zN) mX11_told [(2, 1), (0, i), (0, w)] zN σ (zQi T) := by
  have hf := cs.fix
  have s8 := ok.s
  obtain ⟨g1, g2, g3⟩ := cs.2.2.1
  obtain ⟨s, hs⟩ : ∃ s, s = σ 1 11 := ⟨_, rfl⟩
  have z := sl (s := s) (by omega)
  rw [← hs] at g2 g3
  have e1 : s + 1 + 1 = s + 2 := by omega
  have e2 : s + 1 + 2 = s + 3 := by omega
  refine bk_X11_told ?_
  rw [← hs]
  refine ⟨z.1, hf, c_phas z.2.1 hi g2 (by constructor <;> omega) (fun i0 i1 => ⟨fun _ => ?_, fun q => (by cases q)⟩) (fun q => ⟨fun q => (by cases q), fun _ => ?_⟩)⟩
  · have gi := g3 i i0 i1
    unfold o_told at h
    rw [if_pos ⟨i0, i1⟩] at h
    rw [← hs, e1, e2]
    refine ⟨hw, fun q => ⟨z.1, hf, i0, by rw [z.2.2.1]; show i < 8; omega, ?_⟩, fun q => ⟨z.1, hf, i0, by rw [z.2.2.2.1]; show i < 8; omega, ?_⟩, fun q => ⟨z.1, hf, i0, by omega, ?_⟩, fun q => ⟨z.1, hf, i0, by omega, ?_⟩, fun q => ?_⟩
    · rw [gi.1]; rw [if_pos q] at h; exact h
    · rw [gi.2.1]; rw [if_neg (by omega), if_pos q] at h; exact h
    · rw [gi.2.2.1]; rw [if_neg (by omega), if_neg (by omega), if_pos q] at h; exact h
    · rw [gi.2.2.2]; rw [if_neg (by omega), if_neg (by omega), if_neg (by omega), if_pos q] at h; exact h
    · rw [if_neg (by omega), if_neg (by omega), if_neg (by omega), if_neg (by omega)] at h; exact h
  · unfold o_told at h; rw [if_neg q] at h; exact h
def held (α : ZM) : Nat → Int
  | 0 => 0
  | n + 1 => held α n + (if α 6 n = 0 then 0 else 1)
def o_count (α : ZM) (w : Int) : Int := if w = 0 then α 0 0 else if w = 1 then α 0 1 else if w = 2 then α 0 2 else if w = 3 then α 0 3 else if w = 4 then held α 8 else if w = 5 then α 0 4 else -1
theorem b_count {X : ZS} {σ α : ZM} {T : Int → ZM → Prop} {w : Int} (hw : r32 w) (cs : CS σ α) (ok : Ok α) (h : T (o_count α w) σ) : ZC X (rX11_count zN) mX11_count [(2, 1), (0, w)] zN σ (zQi T) := by
  have hf := cs.fix
  obtain ⟨g1, g2, g3⟩ := cs.2.2.1
  obtain ⟨s, hs⟩ : ∃ s, s = σ 1 11 := ⟨_, rfl⟩
  have z := sl (s := s) (by omega)
  rw [← hs] at g2 g3
  have cm := cs.2.2.2.2.1
  have h01 := ok.h
  unfold o_count at h
  refine bk_X11_count ?_
  rw [← hs]
  refine ⟨hw, fun q => ⟨z.1, hf, ?_⟩, fun q => ⟨hf, ?_⟩, fun q => ?_, fun q => ?_, fun q => ⟨hf, ?_⟩, fun q => ⟨hf, by rw [cm.2.2]; constructor <;> omega, fun q2 => ?_, fun q2 => ?_⟩, fun q => ?_⟩
  · rw [g2]; rw [if_pos q] at h; exact h
  · rw [cs.2.2.2.1.1]; rw [if_neg (by omega), if_pos q] at h; exact h
  · rw [cm.1]; rw [if_neg (by omega), if_neg (by omega), if_pos q] at h; exact h
  · rw [cm.2.1]; rw [if_neg (by omega), if_neg (by omega), if_neg (by omega), if_pos q] at h; exact h
  · rw [if_neg (by omega), if_neg (by omega), if_neg (by omega), if_neg (by omega), if_pos q] at h
    have loop : ∀ (l k : Nat), k + l = 8 → Z X (rX8_countHeld zN) mX8_countHeld 4 [(2, 2), (0, held α k), (0, (k : Int))] [] zN σ (zQi (fun r6 σ7 => T r6 σ7)) := by
      intro l
      induction l with
      | zero =>
        intro k hk
        have : k = 8 := by omega
        subst this
        exact bk_X8_countHeld_4 ⟨by decide, fun _ => h, fun q => absurd (by decide) q⟩
      | succ l ih =>
        intro k hk
        have nx := ih (k + 1) (by omega)
        refine bk_X8_countHeld_4 ⟨by constructor <;> omega, fun q => absurd q (by omega), fun _ => c_sholds (by constructor <;> omega) hf cs.2.1 ok (fun _ _ ke => ⟨fun q => (by cases q), fun _ => ?_⟩) (fun q => ⟨fun _ => ?_, fun q => (by cases q)⟩)⟩
        · have e : held α (k + 1) = held α k + 1 := by show held α k + _ = _; rw [if_neg ke]
          rw [e] at nx; exact nx
        · have e : held α (k + 1) = held α k := by
            show held α k + _ = _
            rw [if_pos (by apply Classical.byContradiction; intro w; exact q ⟨by omega, by omega, w⟩)]; omega
          rw [e] at nx; exact nx
    exact bk_X8_countHeld (loop 8 0 rfl)
  · rw [if_neg (by omega), if_neg (by omega), if_neg (by omega), if_neg (by omega), if_neg (by omega), if_pos q, ← cm.2.2, q2] at h; exact h
  · rw [if_neg (by omega), if_neg (by omega), if_neg (by omega), if_neg (by omega), if_neg (by omega), if_pos q, show α 0 4 = 1 by have := cm.2.2; omega] at h; exact h
  · rw [if_neg (by omega), if_neg (by omega), if_neg (by omega), if_neg (by omega), if_neg (by omega), if_neg (by omega)] at h; exact h
theorem m_count {X : ZS} {σ α : ZM} {T : Int → ZM → Prop} {w : Int} (hw : r32 w) (ms : MS σ α) (ok : Ok α) (h : T (o_count α w) σ) : ZC X (rX12_count zN) mX12_count [(2, 211), (0, w)] zN σ (zQi T) := by
  have hf := ms.fix
  obtain ⟨g2, g3⟩ := ms.2.2.1
  have cm := ms.2.2.2.2
  have h01 := ok.h
  unfold o_count at h
  refine bk_X12_count ⟨hw, fun q => ?_, fun q => ?_, fun q => ?_, fun q => ?_, fun q => ?_, fun q => ⟨by rw [cm.2.2]; constructor <;> omega, fun q2 => ?_, fun q2 => ?_⟩, fun q => ?_⟩
  · rw [g2]; rw [if_pos q] at h; exact h
  · rw [ms.2.2.2.1.1]; rw [if_neg (by omega), if_pos q] at h; exact h
  · rw [cm.1]; rw [if_neg (by omega), if_neg (by omega), if_pos q] at h; exact h
  · rw [cm.2.1]; rw [if_neg (by omega), if_neg (by omega), if_neg (by omega), if_pos q] at h; exact h
  · rw [if_neg (by omega), if_neg (by omega), if_neg (by omega), if_neg (by omega), if_pos q] at h
    have loop : ∀ (l k : Nat), k + l = 8 → Z X (rX12_count zN) mX12_count 64 [(2, 211), (9, 0), (0, held α k), (0, (k : Int))] [] zN σ (zQi T) := by
      intro l
      induction l with
      | zero =>
        intro k hk
        have : k = 8 := by omega
        subst this
        exact bk_X12_count_64 ⟨by decide, fun _ => h, fun q => absurd (by decide) q⟩
      | succ l ih =>
        intro k hk
        have nx := ih (k + 1) (by omega)
        have lk := (ms.2.1 (k : Int) (by omega) (by omega)).1
        have ek := (ok.e (k : Int) (by omega) (by omega)).1
        refine bk_X12_count_64 ⟨by constructor <;> omega, fun q => absurd q (by omega), fun _ => ⟨hf, by omega, by omega, by rw [lk]; constructor <;> omega, fun ke => ?_, fun ke => ?_⟩⟩
        · have e : held α (k + 1) = held α k + 1 := by show held α k + _ = _; rw [if_neg (by omega)]
          rw [e] at nx; exact nx
        · have e : held α (k + 1) = held α k + 0 := by show held α k + _ = _; rw [if_pos (by omega)]
          rw [e] at nx; exact nx
    exact loop 8 0 rfl
  · rw [if_neg (by omega), if_neg (by omega), if_neg (by omega), if_neg (by omega), if_neg (by omega), if_pos q, ← cm.2.2, q2] at h; exact h
  · rw [if_neg (by omega), if_neg (by omega), if_neg (by omega), if_neg (by omega), if_neg (by omega), if_pos q, show α 0 4 = 1 by have := cm.2.2; omega] at h; exact h
  · rw [if_neg (by omega), if_neg (by omega), if_neg (by omega), if_neg (by omega), if_neg (by omega), if_neg (by omega)] at h; exact h
