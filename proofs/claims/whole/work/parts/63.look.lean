theorem lowt_tr {t b u v t' b' : Int} (h : lowt t b u v) (hb : b ≠ 0) (he : t * b' = t' * b) : lowt t' b' u v := by
  refine ⟨h.1, ?_, h.2.2⟩
  apply Int.eq_of_mul_eq_mul_left hb
  have e := h.2.1
  have a1 : b * (u * b') = u * b * b' := by grind
  have a2 : b * (t' * v) = t' * b * v := by grind
  rw [a1, a2, e, ← he]
  grind
def s_res (α : ZM) (u v : Int) : ZM := rp α 11 (fun i => if i = 0 then u else v)
theorem ok_res {α : ZM} {u v : Int} (ok : Ok α) (h : 0 < v) : Ok (s_res α u v) := ⟨ok.s, ok.l, ok.u, ok.n, ok.h, ok.g, ok.w, ok.e, h⟩
/-- only what is not asked for again changes, and the result -/
theorem CS.res {σ σ' α : ZM} (h : CS σ α) (hf : Fix σ') (hA : AW σ') (o : Ou 169 198 σ σ') : CS σ' (s_res α (wv σ' 180) (wv σ' 182)) := by
  obtain ⟨b, l, g, w, m, a, r⟩ := h
  have oc : ∀ c : Int, c < 169 ∨ 198 < c → σ' c = σ c := fun c hc => o c hc
  exact ⟨⟨hf, hA, by rw [oc 17 (by omega)]; exact b.2.2.1, fun i i0 i1 => by rw [oc 142 (by omega)]; exact b.2.2.2 i i0 i1⟩, l.fr (oc 3 (by omega)) (oc 4 (by omega)) (oc 5 (by omega)) rfl rfl rfl, g.fr (by rw [oc 1 (by omega)]) (by rw [oc 1 (by omega)]) (fun c _ _ => oc c (by have := g.1; omega)) rfl rfl rfl rfl rfl, w.fr (by rw [oc 6 (by omega)]) (oc 7 (by omega)) rfl rfl, m.fr (by rw [oc 1 (by omega)]) (by rw [oc 1 (by omega)]) (by rw [oc 141 (by omega)]) rfl rfl rfl, a.fr (fun c _ _ => oc c (by omega)) rfl rfl rfl, ⟨rfl, rfl⟩⟩
theorem b_setRes {X : ZS} {σ α : ZM} {T : Bool → ZM → Prop} {a b : Int} (ha : z_l a = (9, 3)) (hb : z_l b = (9, 3)) (na : a < 170 ∨ 183 < a) (nb : b < 170 ∨ 183 < b) (cs : CS σ α) (hb0 : wv σ b ≠ 0)
    (h : ∀ σ' u v, Ou 1 210 σ σ' → CS σ' (s_res α u v) → lowt (wv σ a) (wv σ b) u v → T true σ') : ZC X (rX11_setResult zN) mX11_setResult [(2, 1), (2, a), (2, b)] zN σ (zQz T) :=
  c_setResult ha hb na nb cs.fix cs.1.2.1 hb0 (fun σ' f' A' o' lt => h σ' _ _ (o'.mono (by decide) (by decide)) (cs.res f' A' (o'.mono (by decide) (by decide))) lt)
theorem MS.num {σ σ' α : ZM} {w : Int → Int} (h : MS σ α) (o : Mo σ σ') (n : NM σ' w) {u v : Int} (hm : MV (s_res α u v) w) : MS σ' (s_res α u v) := by
  obtain ⟨_, l, g, mw, m⟩ := h
  have e := o 211 (by decide) (by decide) (by decide) (by decide)
  exact ⟨⟨w, n, hm⟩, l.fr (o 213 (by decide) (by decide) (by decide) (by decide)) (o 214 (by decide) (by decide) (by decide) (by decide)) (o 215 (by decide) (by decide) (by decide) (by decide)) rfl rfl rfl, g.fr (by rw [e]) (fun c _ _ => o c (by omega) (by omega) (by omega) (by omega)) rfl rfl rfl rfl rfl, mw.fr (by rw [e]) (o 220 (by decide) (by decide) (by decide) (by decide)) rfl rfl, m.fr (by rw [e]) (by rw [e]) (by rw [e]) rfl rfl rfl⟩
theorem Mo.ou {σ σ' : ZM} (h : Mo σ σ') : Ou 211 229 σ σ' := fun c hc => h c (by omega) (by omega) (by omega) (by omega)
theorem s_res_self (α : ZM) : s_res α (α 11 0) (α 11 1) 11 0 = α 11 0 ∧ s_res α (α 11 0) (α 11 1) 11 1 = α 11 1 := ⟨rfl, rfl⟩
/-! look and part -/
def Dgt (x i r : Int) : Prop := ∃ f : Int → Int, dg f 16 ∧ dv f 16 = x ∧ r = if 0 ≤ i ∧ i < 16 then f i else 0
theorem Dgt.uniq {x i r r' : Int} (h : Dgt x i r) (h' : Dgt x i r') : r = r' := by
  obtain ⟨f, f1, f2, f3⟩ := h
  obtain ⟨g, g1, g2, g3⟩ := h'
  rw [f3, g3]
  by_cases q : 0 ≤ i ∧ i < 16
  · rw [if_pos q, if_pos q]; exact dv_inj f1 g1 (f2.trans g2.symm) i q.1 q.2
  · rw [if_neg q, if_neg q]
def Ndg (x r : Int) : Prop := ∃ (f : Int → Int) (n : Nat), dg f 16 ∧ dv f 16 = x ∧ n ≤ 16 ∧ (∀ j : Int, n ≤ j → j < 16 → f j = 0) ∧ (0 < n → f ((n : Int) - 1) ≠ 0) ∧ r = n
theorem Ndg.uniq {x r r' : Int} (h : Ndg x r) (h' : Ndg x r') : r = r' := by
  obtain ⟨f, n, f1, f2, f3, f4, f5, f6⟩ := h
  obtain ⟨g, m, g1, g2, g3, g4, g5, g6⟩ := h'
  have e := dv_inj f1 g1 (f2.trans g2.symm)
  have : n = m := by
    rcases Nat.lt_trichotomy n m with w | w | w
    · exact absurd ((e ((m : Int) - 1) (by omega) (by omega)).symm.trans (f4 _ (by omega) (by omega))) (g5 (by omega))
    · exact w
    · exact absurd ((e ((n : Int) - 1) (by omega) (by omega)).trans (g4 _ (by omega) (by omega))) (f5 (by omega))
  rw [f6, g6, this]
/-- the class's parts, up to sixteen -/
theorem WF.dig16 {σ : ZM} {a : Int} (h : WF σ a) : dg (fun j => if j < 12 then σ (a + 1) j else 0) 16 ∧ dv (fun j => if j < 12 then σ (a + 1) j else 0) 16 = ((wv σ a).natAbs : Int) := by
  refine ⟨fun i i0 i1 => ?_, ?_⟩
  · show 0 ≤ (if i < 12 then σ (a + 1) i else 0) ∧ (if i < 12 then σ (a + 1) i else 0) < 1000000000
    split
    · exact h.2.2.1 i i0 (by omega)
    · omega
  · rw [h.abs, dv_zero (m := 12) (by decide) (fun i i0 i1 => if_neg (by omega))]
    exact dv_congr (fun i i0 i1 => if_pos (by omega))
def R_look (α : ZM) (w r : Int) : Prop := (w = 0 → r = if α 11 0 = 0 then 0 else if α 11 0 < 0 then -1 else 1) ∧ (w = 1 → ∃ n, Ndg ((α 11 0).natAbs : Int) n ∧ r = max 1 n) ∧ (w = 2 → ∃ n, Ndg ((α 11 1).natAbs : Int) n ∧ r = max 1 n) ∧ (w ≠ 0 → w ≠ 1 → w ≠ 2 → r = -1)
theorem R_look.uniq {α : ZM} {w r r' : Int} (h : R_look α w r) (h' : R_look α w r') : r = r' := by
  by_cases w0 : w = 0
  · rw [h.1 w0, h'.1 w0]
  · by_cases w1 : w = 1
    · obtain ⟨n, a, b⟩ := h.2.1 w1
      obtain ⟨n', a', b'⟩ := h'.2.1 w1
      rw [b, b', a.uniq a']
    · by_cases w2 : w = 2
      · obtain ⟨n, a, b⟩ := h.2.2.1 w2
        obtain ⟨n', a', b'⟩ := h'.2.2.1 w2
        rw [b, b', a.uniq a']
      · rw [h.2.2.2 w0 w1 w2, h'.2.2.2 w0 w1 w2]
theorem WF.ndg {σ : ZM} {a : Int} (h : WF σ a) : Ndg ((wv σ a).natAbs : Int) (σ a 1) := by
  obtain ⟨n, hn⟩ : ∃ n : Nat, σ a 1 = n := ⟨(σ a 1).toNat, by have := h.1; omega⟩
  have d := h.dig16
  refine ⟨_, n, d.1, d.2, by have := h.2.1; omega, fun j j0 j1 => ?_, fun n0 => ?_, hn⟩
  · show (if j < 12 then σ (a + 1) j else 0) = 0
    split
    · exact h.2.2.2.1 j (by omega) (by omega)
    · rfl
  · show (if (n : Int) - 1 < 12 then σ (a + 1) ((n : Int) - 1) else 0) ≠ 0
    rw [if_pos (by have := h.2.1; omega), ← hn]
    exact h.2.2.2.2.1 (by omega)
theorem b_look {X : ZS} {σ α : ZM} {T : Int → ZM → Prop} {w : Int} (hw : r32 w) (cs : CS σ α) (ok : Ok α) (h : ∀ r, R_look α w r → T r σ) : ZC X (rX11_look zN) mX11_look [(2, 1), (0, w)] zN σ (zQi T) := by
  have hf := cs.fix
  have A := cs.1.2.1
  have wt := A 180 la_180
  have wb := A 182 la_182
  have r := cs.2.2.2.2.2.2
  have nt := wt.ndg
  have nb := wb.ndg
  rw [r.1] at nt
  rw [r.2] at nb
  refine bk_X11_look ⟨hw, fun w0 => ⟨fun w1 => ⟨fun w2 => ?_, fun w2 => ⟨hf, ?_⟩⟩, fun w1 => ⟨hf, wt.s32, ?_⟩⟩, fun w0 => ⟨hf, ?_⟩⟩
  · exact h (-1) ⟨fun q => absurd q w0, fun q => absurd q w1, fun q => absurd q w2, fun _ _ _ => rfl⟩
  · refine h _ ⟨fun q => absurd q w0, fun q => absurd q w1, fun _ => ⟨_, nb, ?_⟩, fun _ _ q => absurd w2 q⟩
    have z := wb.zero
    have ab := wb.abs
    rw [r.2] at ab
    have := ok.r
    have := wb.1
    have : σ 182 1 ≠ 0 := fun q => by have := z.mpr q; omega
    omega
  · exact h _ ⟨fun q => absurd q w0, fun _ => ⟨_, nt, rfl⟩, fun q => absurd q (by omega), fun _ q _ => absurd w1 q⟩
  · have s := wt.sgn
    rw [r.1] at s
    refine h _ ⟨fun _ => ?_, fun q => absurd q (by omega), fun q => absurd q (by omega), fun q _ _ => absurd w0 q⟩
    by_cases q : α 11 0 = 0
    · rw [if_pos q]; exact s.2.2.mpr q
    · rw [if_neg q]
      by_cases q2 : α 11 0 < 0
      · rw [if_pos q2]; exact s.2.1.mpr q2
      · rw [if_neg q2]; exact s.1.mpr (by omega)
theorem c_manyParts {X : ZS} {σ : ZM} {T : Int → ZM → Prop} {x : Int} (hd : dg (σ 221) 16) (hx : dv (σ 221) 16 = x) (h : ∀ n, Ndg x n → T (max 1 n) σ) : ZC X (rX12_manyParts zN) mX12_manyParts [(2, 211), (2, 221)] zN σ (zQi T) := by
  refine bk_X12_manyParts la_221 (c_length la_221 hd (fun n n16 nz nt => ?_))
  have := h n ⟨σ 221, n, hd, hx, n16, nz, nt, rfl⟩
  refine ⟨by constructor <;> omega, fun q => ?_, fun q => ?_⟩
  · rw [show max 1 (n : Int) = n by omega] at this; exact this
  · rw [show max 1 (n : Int) = 1 by omega] at this; exact this
theorem MS.bare {σ σ' α : ZM} (h : MS σ α) {v : Int → Int} (o : ∀ c : Int, c ≠ 212 → c ≠ 221 → σ' c = σ c) (n : NM σ' v) (mv : MV α v) : MS σ' α := by
  obtain ⟨_, l, g, w, m⟩ := h
  have e := o 211 (by decide) (by decide)
  exact ⟨⟨v, n, mv⟩, l.fr (o 213 (by decide) (by decide)) (o 214 (by decide) (by decide)) (o 215 (by decide) (by decide)) rfl rfl rfl, g.fr (by rw [e]) (fun c _ _ => o c (by omega) (by omega)) rfl rfl rfl rfl rfl, w.fr (by rw [e]) (o 220 (by decide) (by decide)) rfl rfl, m.fr (by rw [e]) (by rw [e]) (by rw [e]) rfl rfl rfl⟩
/-- the result is within the class's bounds -/
theorem CR.bd {σ α : ZM} (h : CR σ α) (A : AW σ) : (-pw 12 < α 11 0 ∧ α 11 0 < pw 12) ∧ -pw 12 < α 11 1 ∧ α 11 1 < pw 12 := by
  have a := (A 180 la_180)
  have b := (A 182 la_182)
  have a1 := a.lt (m := 12) (by decide) a.2.1
  have b1 := b.lt (m := 12) (by decide) b.2.1
  have a2 := a.abs
  have b2 := b.abs
  rw [h.1] at a2
  rw [h.2] at b2
  omega
theorem pw_12_15 : pw 12 < pw 15 := by unfold pw; decide +kernel
theorem m_look {X : ZS} {σ α : ZM} {T : Int → ZM → Prop} {w : Int} (hw : r32 w) (ms : MS σ α) (hb : (-pw 12 < α 11 0 ∧ α 11 0 < pw 12) ∧ -pw 12 < α 11 1 ∧ α 11 1 < pw 12) (h : ∀ r σ', Ou 211 229 σ σ' → MS σ' α → R_look α w r → T r σ') : ZC X (rX12_look zN) mX12_look [(2, 211), (0, w)] zN σ (zQi T) := by
  have hf := ms.fix
  have ms0 := ms
  obtain ⟨⟨v, n, mv⟩, _⟩ := ms0
  have p := pw_12_15
  have lk : ∀ k : Int, k = 0 ∨ k = 1 → (w = 1 → k = 0) → (w = 2 → k = 1) → (w = 1 ∨ w = 2) → (Fix σ) ∧ ZC X (rX12_bare zN) mX12_bare [(2, 211), (0, k), (2, 221)] zN σ (zQv (fun σ4 => (Fix σ4) ∧ ZC X (rX12_manyParts zN) mX12_manyParts [(2, 211), (2, 221)] zN σ4 (zQi (fun r6 σ7 => T r6 σ7)))) := fun k hk h1 h2 hw => by
    have vk : v k = α 11 k := by rcases hk with q | q <;> rw [q]; exact mv.2.1; exact mv.2.2
    refine ⟨hf, c_bare (v := v) (by omega) (by omega) la_221 (by decide) n (by rw [vk]; rcases hk with q | q <;> rw [q] <;> omega) (fun σ4 o4 n4 d4 e4 => ⟨n4.1, c_manyParts d4 (e4.trans (by rw [vk])) (fun m hm => ?_)⟩)⟩
    refine h _ σ4 (fun c hc => o4 c (by omega) (by omega)) (ms.bare o4 n4 mv) ⟨fun q => absurd q (by omega), fun q => ⟨m, ?_, rfl⟩, fun q => ⟨m, ?_, rfl⟩, fun q1 q2 q3 => absurd hw (by omega)⟩
    · rw [h1 q] at hm; exact hm
    · rw [h2 q] at hm; exact hm
  refine bk_X12_look ⟨hw, fun w0 => ⟨fun w1 => ⟨fun q => absurd w1 q, fun _ => lk 0 (Or.inl rfl) (fun _ => rfl) (fun q => absurd q (by omega)) (Or.inl w1)⟩, fun w1 => ⟨fun w2 => ⟨fun _ => lk 1 (Or.inr rfl) (fun q => absurd q w1) (fun _ => rfl) (Or.inr w2), fun q => absurd q w1⟩, fun w2 => h (-1) σ Ou.rfl' ms ⟨fun q => absurd q w0, fun q => absurd q w1, fun q => absurd q w2, fun _ _ _ => rfl⟩⟩⟩, fun w0 => ?_⟩
  refine c_sign (by decide) (by decide) hf (n.2 0 (by decide) (by decide)).1 ?_
  rw [(n.2 0 (by decide) (by decide)).2, mv.2.1]
  exact h _ σ Ou.rfl' ms ⟨fun _ => rfl, fun q => absurd q (by omega), fun q => absurd q (by omega), fun q _ _ => absurd w0 q⟩
def R_part (α : ZM) (b i r : Int) : Prop := Dgt (((α 11 (if b = 0 then 0 else 1)).natAbs : Int)) i r
theorem WF.dgt {σ : ZM} {a i : Int} (h : WF σ a) : Dgt ((wv σ a).natAbs : Int) i (if 0 ≤ i ∧ i < σ a 1 then σ (a + 1) i else 0) := by
  have d := h.dig16
  refine ⟨_, d.1, d.2, ?_⟩
  have s := h.2.1
  by_cases q : 0 ≤ i ∧ i < 16
  · rw [if_pos q]
    show _ = if i < 12 then σ (a + 1) i else 0
    by_cases q2 : i < σ a 1
    · rw [if_pos ⟨q.1, q2⟩, if_pos (by omega)]
    · rw [if_neg (by omega)]
      split
      · exact (h.2.2.2.1 i (by omega) (by omega)).symm
      · rfl
  · rw [if_neg q, if_neg (by omega)]
theorem b_part {X : ZS} {σ α : ZM} {T : Int → ZM → Prop} {b i : Int} (hb : r32 b) (hi : r32 i) (cs : CS σ α) (h : ∀ r, R_part α b i r → T r σ) : ZC X (rX11_part zN) mX11_part [(2, 1), (0, b), (0, i)] zN σ (zQi T) := by
  have hf := cs.fix
  have A := cs.1.2.1
  have wt := A 180 la_180
  have wb := A 182 la_182
  have r := cs.2.2.2.2.2.2
  have dt := wt.dgt (i := i)
  have db := wb.dgt (i := i)
  rw [r.1] at dt
  rw [r.2] at db
  have t12 := wt.2.1
  have b12 := wb.2.1
  refine bk_X11_part ⟨hb, fun b0 => ⟨hf, hi, fun q => ?_, fun q => ⟨wt.s32, fun q2 => ?_, fun q2 => ⟨by omega, by omega, ?_⟩⟩⟩, fun b0 => ⟨hf, hi, fun q => ?_, fun q => ⟨wb.s32, fun q2 => ?_, fun q2 => ⟨by omega, by omega, ?_⟩⟩⟩⟩
  · refine h 0 ?_; unfold R_part; rw [if_pos b0]; rw [if_neg (by omega)] at dt; exact dt
  · refine h 0 ?_; unfold R_part; rw [if_pos b0]; rw [if_neg (by omega)] at dt; exact dt
  · refine h _ ?_; unfold R_part; rw [if_pos b0]; rw [if_pos (by omega)] at dt; exact dt
  · refine h 0 ?_; unfold R_part; rw [if_neg b0]; rw [if_neg (by omega)] at db; exact db
  · refine h 0 ?_; unfold R_part; rw [if_neg b0]; rw [if_neg (by omega)] at db; exact db
  · refine h _ ?_; unfold R_part; rw [if_neg b0]; rw [if_pos (by omega)] at db; exact db
theorem m_part {X : ZS} {σ α : ZM} {T : Int → ZM → Prop} {b i : Int} (hbb : r32 b) (hi : r32 i) (ms : MS σ α) (hb : (-pw 12 < α 11 0 ∧ α 11 0 < pw 12) ∧ -pw 12 < α 11 1 ∧ α 11 1 < pw 12) (h : ∀ r σ', Ou 211 229 σ σ' → MS σ' α → R_part α b i r → T r σ') : ZC X (rX12_part zN) mX12_part [(2, 211), (0, b), (0, i)] zN σ (zQi T) := by
  have hf := ms.fix
  have ms0 := ms
  obtain ⟨⟨v, n, mv⟩, _⟩ := ms0
  have p := pw_12_15
  have pt : ∀ k : Int, k = (if b = 0 then 0 else 1) → (Fix σ) ∧ ZC X (rX12_bare zN) mX12_bare [(2, 211), (0, k), (2, 221)] zN σ (zQv (fun σ4 => (r32 i) ∧ ((i < 0) → T 0 σ4) ∧ ((¬ (i < 0)) → ((i < 16) → (Fix σ4) ∧ (0 ≤ i) ∧ (i < 16) ∧ T (σ4 221 i) σ4) ∧ ((¬ (i < 16)) → T 0 σ4)))) := fun k hk => by
    have k01 : k = 0 ∨ k = 1 := by rw [hk]; split <;> omega
    have vk : v k = α 11 k := by rcases k01 with q | q <;> rw [q]; exact mv.2.1; exact mv.2.2
    refine ⟨hf, c_bare (v := v) (by omega) (by omega) la_221 (by decide) n (by rw [vk]; rcases k01 with q | q <;> rw [q] <;> omega) (fun σ4 o4 n4 d4 e4 => ?_)⟩
    have D : ∀ r, (r = if 0 ≤ i ∧ i < 16 then σ4 221 i else 0) → T r σ4 := fun r hr => h r σ4 (fun c hc => o4 c (by omega) (by omega)) (ms.bare o4 n4 mv) ⟨σ4 221, d4, by rw [e4, vk, hk], hr⟩
    exact ⟨hi, fun q => D 0 (by rw [if_neg (by omega)]), fun q => ⟨fun q2 => ⟨n4.1, by omega, q2, D _ (by rw [if_pos ⟨by omega, q2⟩])⟩, fun q2 => D 0 (by rw [if_neg (by omega)])⟩⟩
  refine bk_X12_part ⟨hbb, fun b0 => ?_, fun b0 => ?_⟩
  · exact pt 0 (by rw [if_pos b0])
  · exact pt 1 (by rw [if_neg b0])
