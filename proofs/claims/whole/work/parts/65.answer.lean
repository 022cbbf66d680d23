def isA (α : ZM) (w : Int) : Prop := α 0 4 = 1 ∧ (0 ≤ w ∧ w ≤ 2 ∨ 10 ≤ w ∧ w - 10 < α 0 0)
def kA (w : Int) : Int := if 10 ≤ w then w - 7 else w
theorem b_answer {X : ZS} {σ α : ZM} {T : Bool → ZM → Prop} {w : Int} (hw : r32 w) (cs : CS σ α) (ok : Ok α) (h0 : ¬ isA α w → T false σ) (h1 : isA α w → ∀ σ' u v, Ou 1 210 σ σ' → CS σ' (s_res α u v) → lowt (α 9 (kA w)) (α 10 (kA w)) u v → T true σ') : ZC X (rX11_answer zN) mX11_answer [(2, 1), (0, w)] zN σ (zQz T) := by
  have hf := cs.fix
  have s8 := ok.s
  have hh := ok.h
  have cm := cs.2.2.2.2.1.2.2
  have g := cs.2.2.1
  have z := sl (s := σ 1 11) (by have := g.1; omega)
  have go : α 0 4 = 1 → ∀ (k a b : Int), k = kA w → isA α w → 0 ≤ k → k < 11 → aT k = a → aB k = b → z_l a = (9, 3) → z_l b = (9, 3) → ZC X (rX11_setResult zN) mX11_setResult [(2, 1), (2, a), (2, b)] zN σ (zQz (fun r σ' => T r σ')) := fun q4 k a b hk hi k0 k1 ha hb la lb => by
    have e := cs.2.2.2.2.2.1 q4 k k0 k1
    rw [ha, hb] at e
    have ra := aT_r k0 k1
    have rb := aB_r k
    refine b_setRes la lb (by omega) (by omega) cs e.1 (fun σ' u v o' c' lt => h1 hi σ' u v o' c' ?_)
    rw [← hk]
    exact lowt_tr lt e.1 e.2.2
  refine bk_X11_answer ⟨hf, by rw [cm]; constructor <;> omega, fun q4 => ?_, fun q4 => h0 (fun w => by have := w.1; omega)⟩
  have h4 : α 0 4 = 1 := by omega
  refine ⟨hw, fun w0 => ⟨fun w1 => ⟨fun w2 => ⟨fun q => h0 (fun i => by have := i.2; omega), fun q => ⟨z.1, c_phas z.2.1 (by have := hw.1; have := hw.2; constructor <;> omega) g.2.1 (by constructor <;> omega) (fun i0 i1 => ⟨fun _ => ⟨hf, i0, by omega, ?_⟩, fun q => (by cases q)⟩) (fun q2 => ⟨fun q => (by cases q), fun _ => h0 (fun i => by have := i.2; omega)⟩)⟩⟩, fun w2 => ?_⟩, fun w1 => ?_⟩, fun w0 => ?_⟩
  · rw [cs.1.2.2.2 (w - 10) i0 (by omega)]
    have i8 : w - 10 = 0 ∨ w - 10 = 1 ∨ w - 10 = 2 ∨ w - 10 = 3 ∨ w - 10 = 4 ∨ w - 10 = 5 ∨ w - 10 = 6 ∨ w - 10 = 7 := by omega
    have lz : z_l (153 + 2 * (w - 10)) = (9, 3) := by
      rcases i8 with e | e | e | e | e | e | e | e <;> rw [e]
      · exact la_153
      · exact la_155
      · exact la_157
      · exact la_159
      · exact la_161
      · exact la_163
      · exact la_165
      · exact la_167
    refine go h4 (w - 7) _ _ (by unfold kA; rw [if_pos (by omega)]) ⟨h4, Or.inr ⟨by omega, i1⟩⟩ (by omega) (by omega) ?_ ?_ lz la_147
    · unfold aT; rw [if_neg (by omega), if_neg (by omega), if_neg (by omega)]; omega
    · unfold aB; rw [if_neg (by omega)]
  · exact go h4 2 145 147 (by unfold kA; rw [if_neg (by omega), w2]) ⟨h4, Or.inl (by omega)⟩ (by decide) (by decide) rfl rfl la_145 la_147
  · exact go h4 1 149 151 (by unfold kA; rw [if_neg (by omega), w1]) ⟨h4, Or.inl (by omega)⟩ (by decide) (by decide) rfl rfl la_149 la_151
  · exact go h4 0 143 147 (by unfold kA; rw [if_neg (by omega), w0]) ⟨h4, Or.inl (by omega)⟩ (by decide) (by decide) rfl rfl la_143 la_147
theorem m_answer {X : ZS} {σ α : ZM} {T : Bool → ZM → Prop} {w : Int} (hw : r32 w) (ms : MS σ α) (ok : Ok α) (h0 : ¬ isA α w → T false σ) (h1 : isA α w → ∀ σ' u v, Ou 211 229 σ σ' → MS σ' (s_res α u v) → lowt (α 9 (kA w)) (α 10 (kA w)) u v → T true σ') : ZC X (rX12_answer zN) mX12_answer [(2, 211), (0, w)] zN σ (zQz T) := by
  have hf := ms.fix
  have s8 := ok.s
  have hh := ok.h
  have cm := ms.2.2.2.2.2.2
  have ms0 := ms
  obtain ⟨⟨v, n, mv⟩, _⟩ := ms0
  have go : ∀ k : Int, k = kA w → isA α w → 0 ≤ k → k < 11 → ZC X (rX12_top zN) mX12_top [(2, 211), (0, k)] zN σ (zQi (fun r4 σ5 => ZC X (rX12_bottom zN) mX12_bottom [(2, 211), (0, k)] zN σ5 (zQi (fun r6 σ7 => ZC X (rX12_result zN) mX12_result [(2, 211), (0, r4), (0, r6)] zN σ7 (zQv (fun σ9 => T true σ9)))))) := fun k hk hi k0 k1 => by
    obtain ⟨b1, b2, e⟩ := mv.1 hi.1 k k0 k1
    refine bk_X12_top (bk_X12_bottom (c_result (by omega) (by omega) (by omega) (by omega) n b1 b2 e.1 (fun σ9 w9 o9 n9 e9 lt => ?_)))
    refine h1 hi σ9 (w9 0) (w9 1) o9.ou (ms.num o9 n9 (mv.upd (fun j j0 j1 => e9 j (by omega) j1) rfl rfl)) ?_
    rw [← hk]
    exact lowt_tr lt e.1 e.2.2
  have no : ¬ isA α w → T false σ := h0
  -- from 22 on
  have at22 : ∀ y0 : Int, (y0 = 0 ∧ (w < 10 ∨ ¬ w - 10 < α 0 0) ∨ y0 = 1 ∧ 10 ≤ w ∧ w - 10 < α 0 0) → Z X (rX12_answer zN) mX12_answer 22 [(2, 211), (0, w), (9, 0), (9, 0)] [(0, y0)] zN σ (zQz T) := fun y0 hy => by
    refine bk_X12_answer_22 ⟨by rw [cm]; constructor <;> omega, fun q => no (fun i => by have := i.1; omega), fun q => ?_⟩
    have h4 : α 0 4 = 1 := by omega
    have ry : r32 y0 := by constructor <;> omega
    refine ⟨hw, fun w0 => ⟨ry, fun y => ⟨fun q => absurd q y, fun _ => absurd w0 (by omega)⟩, fun y => no (fun i => by have := i.2; omega)⟩, fun w0 => ⟨fun w2 => ⟨ry, fun y => go w (by unfold kA; rw [if_neg (by omega)]) ⟨h4, Or.inl (by omega)⟩ (by omega) (by omega), fun y => absurd w2 (by omega)⟩, fun w2 => ⟨ry, fun y => ⟨fun q => absurd q y, fun _ => go (w - 7) (by unfold kA; rw [if_pos (by omega)]) ⟨h4, Or.inr (by omega)⟩ (by omega) (by omega)⟩, fun y => no (fun i => by have := i.2; omega)⟩⟩⟩
  refine bk_X12_answer ⟨hw, fun q => at22 0 (Or.inl ⟨rfl, Or.inl q⟩), fun q => m_isSeen (by have := hw.1; have := hw.2; constructor <;> omega) ms.2.2.1 ok (fun i0 i1 => ⟨fun q => (by cases q), fun _ => at22 1 (Or.inr ⟨rfl, by omega, i1⟩)⟩) (fun q2 => ⟨fun _ => at22 0 (Or.inl ⟨rfl, Or.inr (by omega)⟩), fun q => (by cases q)⟩)⟩
