section ZRet
variable {X : ZS} {ρ : ZR} {M : ZT} {pc : Nat} {L st : List ZV} {n : Nat} {σ : ZM} {Q : ZV → ZM → Prop}
theorem Z_end1 {r : ZV} (h9 : r.1 ≠ 9) (hr : z_ret M pc r) (hn : n = ρ.2.2) (hq : Q r σ) : Z X ρ M pc L [r] n σ Q := by
  subst hn
  intro p l e R s m args below meth c B b D cA Qf hF hE H locs cells slots ls hD hL
  have k := hE r σ H locs cells slots ls pc hq hD hr
  unfold z_rst at k
  rw [if_neg h9] at k
  exact k
theorem Z_ireturn {x : Int} (hd : decode M.2.1 pc = .ok (.ireturn, 1)) (hr : M.2.2.2 = some .int) (hn : n = ρ.2.2) (hq : Q (0, x) σ) : Z X ρ M pc L [(0, x)] n σ Q :=
  Z_end1 (by simp) (Or.inl ⟨rfl, hd, Or.inl hr⟩) hn hq
theorem Z_zreturn {x : Int} (hd : decode M.2.1 pc = .ok (.ireturn, 1)) (hr : M.2.2.2 = some .boolean) (hx : x = 0 ∨ x = 1) (hn : n = ρ.2.2) (hq : Q (0, x) σ) : Z X ρ M pc L [(0, x)] n σ Q :=
  Z_end1 (by simp) (Or.inl ⟨rfl, hd, Or.inr ⟨hr, hx⟩⟩) hn hq
theorem Z_lreturn {x : Int} (hd : decode M.2.1 pc = .ok (.lreturn, 1)) (hr : M.2.2.2 = some .long) (hn : n = ρ.2.2) (hq : Q (1, x) σ) : Z X ρ M pc L [(1, x)] n σ Q :=
  Z_end1 (by simp) (Or.inr (Or.inl ⟨rfl, hd, hr⟩)) hn hq
theorem Z_areturn {C : String} {x : Int} (hd : decode M.2.1 pc = .ok (.areturn, 1)) (hr : M.2.2.2 = some (.object C)) (hn : n = ρ.2.2) (hq : Q (2, x) σ) : Z X ρ M pc L [(2, x)] n σ Q :=
  Z_end1 (by simp) (Or.inr (Or.inr (Or.inl ⟨rfl, hd, C, hr⟩))) hn hq
theorem Z_return (hd : decode M.2.1 pc = .ok (.return_, 1)) (hr : M.2.2.2 = none) (hn : n = ρ.2.2) (hq : Q (9, 0) σ) : Z X ρ M pc L [] n σ Q := by
  subst hn
  intro p l e R s m args below meth c B b D cA Qf hF hE H locs cells slots ls hD hL
  exact hE (9, 0) σ H locs cells slots ls pc hq hD (Or.inr (Or.inr (Or.inr ⟨rfl, hd, hr⟩)))
end ZRet
/-! calls -/
def z_sl (As : List ZV) : List ZV := As.flatMap (fun v => if v.1 = 1 then [v, (9, 0)] else [v])
def z_ent (nL : Nat) (As : List ZV) : List ZV := z_sl As ++ List.replicate (nL - (z_sl As).length) (9, 0)
theorem z_sl_len (B b : Nat) (As : List ZV) : (lg_sl (As.map (z_rv B b))).length = (z_sl As).length := by
  induction As with
  | nil => rfl
  | cons v t ih =>
    have e1 : lg_sl ((v :: t).map (z_rv B b)) = (if (z_rv B b v).category = 2 then [Slot.val (z_rv B b v), .second] else [.val (z_rv B b v)]) ++ lg_sl (t.map (z_rv B b)) := rfl
    have e2 : z_sl (v :: t) = (if v.1 = 1 then [v, (9, 0)] else [v]) ++ z_sl t := rfl
    rw [e1, e2, List.length_append, List.length_append, ih]
    congr 1
    by_cases h : v.1 = 1
    · obtain ⟨tg, x⟩ := v
      dsimp only at h
      subst h
      rfl
    · rw [if_neg h, if_neg (by rw [z_cat1 B b h]; decide)]
      rfl
theorem z_args_mem {B b : Nat} {As : List ZV} : ∀ {k i : Nat} {v : ZV}, (z_sl As)[i]? = some v → v.1 ≠ 9 → (k + i, z_rv B b v) ∈ lv_args k (As.map (z_rv B b)) := by
  induction As with
  | nil => intro k i v h; simp [z_sl] at h
  | cons w t ih =>
    intro k i v h h9
    have e2 : z_sl (w :: t) = (if w.1 = 1 then [w, (9, 0)] else [w]) ++ z_sl t := rfl
    have e1 : lv_args k ((w :: t).map (z_rv B b)) = (k, z_rv B b w) :: lv_args (if (z_rv B b w).category = 2 then k + 2 else k + 1) (t.map (z_rv B b)) := rfl
    rw [e2] at h
    rw [e1]
    by_cases hw : w.1 = 1
    · have hc : (z_rv B b w).category = 2 := by
        obtain ⟨tg, x⟩ := w
        dsimp only at hw
        subst hw
        rfl
      rw [if_pos hw] at h
      rw [if_pos hc]
      match i, h with
      | 0, h =>
        simp only [List.cons_append, List.getElem?_cons_zero, Option.some.injEq] at h
        subst h
        exact List.mem_cons_self
      | 1, h =>
        simp only [List.cons_append, List.getElem?_cons_succ, List.getElem?_cons_zero, Option.some.injEq] at h
        rw [← h] at h9
        exact absurd rfl h9
      | i + 2, h =>
        simp only [List.cons_append, List.getElem?_cons_succ, List.nil_append] at h
        have := ih (k := k + 2) h h9
        rw [show k + (i + 2) = k + 2 + i by omega]
        exact List.mem_cons_of_mem _ this
    · have hc : ¬ (z_rv B b w).category = 2 := by rw [z_cat1 B b hw]; decide
      rw [if_neg hw] at h
      rw [if_neg hc]
      match i, h with
      | 0, h =>
        simp only [List.cons_append, List.getElem?_cons_zero, Option.some.injEq] at h
        subst h
        exact List.mem_cons_self
      | i + 1, h =>
        simp only [List.cons_append, List.getElem?_cons_succ, List.nil_append] at h
        have := ih (k := k + 1) h h9
        rw [show k + (i + 1) = k + 1 + i by omega]
        exact List.mem_cons_of_mem _ this
theorem z_ent_loc {B b nL : Nat} {As : List ZV} (h : (z_sl As).length ≤ nL) : z_loc B b nL (z_ent nL As) ((lg_sl (As.map (z_rv B b)) ++ List.replicate (nL - (lg_sl (As.map (z_rv B b))).length) Slot.unset).toArray) := by
  have hl := lv_entry (As.map (z_rv B b)) (n := nL) (by rw [z_sl_len]; exact h)
  refine ⟨hl.1, hl.2.1, fun i v hv h9 => ?_⟩
  have hi : (z_sl As)[i]? = some v := by
    unfold z_ent at hv
    by_cases hlt : i < (z_sl As).length
    · rwa [List.getElem?_append_left hlt] at hv
    · rw [List.getElem?_append_right (by omega)] at hv
      have := List.mem_of_getElem? hv
      rw [(List.mem_replicate.mp this).2] at h9
      exact absurd rfl h9
  have := hl.2.2 (0 + i, z_rv B b v) (z_args_mem hi h9)
  rwa [Nat.zero_add] at this
/-! words: most are kept by every warming as they stand; the nest mates' links and 'an array over' go with the world -/
def z_tb : List Cond := z_us.filter goodWord
theorem z_bad_of {w : Cond} (h : z_bad w = true) {A : Array Value} {U : State} (hz : w.before A U = true) : va_Nw w U := by
  cases w with
  | fieldLinkNest a i b n d h => exact va_Nw.of rfl hz
  | methodLinkNest a i x h => exact va_Nw.of rfl hz
  | arrayOver t =>
    cases t with
    | object C => exact va_AO.of hz
    | _ => cases h
  | _ => cases h
theorem z_bad_use {w : Cond} (h : z_bad w = true) {A : Array Value} {U : State} (hz : va_Nw w U) : w.before A U = true := by
  cases w with
  | fieldLinkNest a i b n d h => exact va_Nw.use rfl hz
  | methodLinkNest a i x h => exact va_Nw.use rfl hz
  | arrayOver t =>
    cases t with
    | object C => exact va_AO.use hz
    | _ => cases h
  | _ => cases h
theorem z_bad_warm {w : Cond} (h : z_bad w = true) {s U : State} (hW : s.WarmedH U.vm) (hz : va_Nw w s) : va_Nw w U := by
  cases w with
  | fieldLinkNest a i b n d h => exact va_Nw.warmF hW hz
  | methodLinkNest a i x h => exact va_Nw.warmM hW hz
  | arrayOver t =>
    cases t with
    | object C => exact va_AO.moved hW.alike hz
    | _ => cases h
  | _ => cases h
theorem z_bad_same {w : Cond} (h : z_bad w = true) {s U : State} (hW : s.vm = U.vm) (hz : va_Nw w s) : va_Nw w U := by
  cases w with
  | fieldLinkNest a i b n d h => exact va_Nw.same rfl hW hz
  | methodLinkNest a i x h => exact va_Nw.same rfl hW hz
  | arrayOver t =>
    cases t with
    | object C => exact va_AO.moved (hW ▸ Vm.Alike.refl s.vm) hz
    | _ => cases h
  | _ => cases h
def z_nw (U : State) : Prop := ∀ w ∈ z_us, z_bad w = true → va_Nw w U
theorem z_words {A : Array Value} {U : State} (h1 : ∀ w ∈ z_tb, w.before A U = true) (h2 : z_nw U) : ∀ w ∈ z_us, w.before A U = true := by
  intro w hw
  have h : z_chk w = true := (List.mem_filter.mp hw).2
  unfold z_chk at h
  rw [Bool.or_eq_true] at h
  rcases h with h | h
  · exact h1 w (List.mem_filter.mpr ⟨hw, h⟩)
  · exact z_bad_use h (h2 w hw h)
theorem z_tb_sub {w : Cond} (h : w ∈ z_tb) : w ∈ z_us := (List.mem_filter.mp h).1
theorem z_good : GoodIn z_us z_tb := fun w hw => ⟨z_tb_sub hw, good_of_word (List.mem_filter.mp hw).2⟩
theorem z_goodc {y : MethodName} {bs : ByteArray} {nL : Nat} {ret : Option FieldType} (h : Cond.code y bs nL ret ∈ z_us) : GoodIn z_us (.code y bs nL ret :: z_tb) := fun w hw => by
  rcases List.mem_cons.mp hw with rfl | hw
  · exact ⟨h, Or.inl rfl⟩
  · exact z_good _ hw
def z_ro (B b : Nat) (r : ZV) : Option Value := if r.1 = 9 then none else some (z_rv B b r)
def z_pc (X : ZS) (n : Nat) (σ : ZM) (B b : Nat) (D : va_G) (cA : Nat → ClassId) (As : List ZV) : Array Value → State → Prop := va_Pc (As.map (z_rv B b)) (fun U => va_K D vwCl (z_tys cA) U ∧ va_P D vwCl (z_ws B cA σ n) U.heap ∧ U.heap.size = B + n + 1 ∧ va_X b X.1 X.2 U U.heap ∧ b ≤ B ∧ z_nw U)
def z_qc (n1 : Nat) (P : ZV → ZM → Prop) (B b : Nat) (D : va_G) (cA : Nat → ClassId) : Array Value → State → Outcome → State → Prop := fun _ st oc t => (∃ (r : ZV) (σ : ZM), oc = .returned (z_ro B b r) ∧ P r σ ∧ va_P D vwCl (z_ws B cA σ n1) t.heap) ∧ va_F (z_A B) st t
/-- a contract out of a walk, for any method that no native row stands for -/
theorem z_ofW {l : Launch} {y : MethodName} {ws ws' : List Cond} {rm : Room} {Pc : Array Value → State → Prop} {Qc : Array Value → State → Outcome → State → Prop} {mc ms : Nat} {free : Addr → Prop} {cc : ByteArray} {maxL : Nat} {ret : Option FieldType}
    (hy : plainFor y = true) (hw : ws = Cond.code y cc maxL ret :: ws')
    (body : ∀ p e s m args below meth c s₁, BodyLoose p l y (headSpec ws rm) cc maxL ret e s m args below meth c s₁ → c.maxLocals = maxL → Pc args s →
      W p l e (headSpec ws rm).room s m args below meth c s.heap [] 0 0 (MQ below Qc args s mc ms free) (entryFrame m args maxL)) : Met l y ws rm Pc Qc mc ms free := by
  refine MetFree.of_bodySF (code := cc) (maxLocals := maxL) (ret := ret) hy (fun args s m h hn => ?_) (fun p e s m args below meth c s₁ hB hml hP _ => ?_)
  · have hc := atoms_spec (ws := ws) h (Cond.code y cc maxL ret) (by rw [hw]; exact List.mem_cons_self)
    obtain ⟨meth, c, h1, h2, h3, h4, h5, h6, -⟩ := Cond.code_spec hn hc
    exact ⟨meth, c, h1, h2, h3, h4, h5, h6⟩
  · have hh : s₁.heap = s.heap := by rw [hB.state]; rfl
    obtain ⟨t, g1, o, g2, g3, g4, g5⟩ := body p e s m args below meth c s₁ hB hml hP s₁ hh (Stand.of_body hB)
    exact ⟨t, o, g1, g2, g3, g4, g5⟩
theorem z_met {X : ZS} {ρ : ZR} {M : ZT} {As : List ZV} {n : Nat} {σ : ZM} {P : ZV → ZM → Prop} (h : Z X ρ M 0 (z_ent M.2.2.1 As) [] n σ P) (hy : plainFor M.1 = true) (hlen : (z_sl As).length ≤ M.2.2.1) (hn : n ≤ ρ.2.2) (l : Launch) (B b : Nat) (D : va_G) (cA : Nat → ClassId) :
    Met l M.1 (.code M.1 M.2.1 M.2.2.1 M.2.2.2 :: z_tb) { frames := ρ.1, cells := ρ.2.2 - n, slots := z_ss ρ.2.2 - z_ss n, locals := ρ.2.1 } (z_pc X n σ B b D cA As) (z_qc ρ.2.2 P B b D cA) (ρ.2.2 - n) (z_ss ρ.2.2 - z_ss n) (z_A B) := by
  refine z_ofW (cc := M.2.1) (maxL := M.2.2.1) (ret := M.2.2.2) hy rfl ?_
  intro p e s m args below meth c s₁ Bd hml hv
  obtain ⟨rfl, hK, hP, hsz, hX, hbB, hnw⟩ := hv
  have hts := atoms_spec (ws := .code M.1 M.2.1 M.2.2.1 M.2.2.2 :: z_tb) Bd.pre
  have hF : z_fix X ρ M p (headSpec (.code M.1 M.2.1 M.2.2.1 M.2.2.2 :: z_tb) { frames := ρ.1, cells := ρ.2.2 - n, slots := z_ss ρ.2.2 - z_ss n, locals := ρ.2.1 }).room s m (As.map (z_rv B b)).toArray meth c B b D cA :=
    ⟨Bd.exec, Bd.bytes, Bd.returns, Bd.notSynchronized, hml, findClass_of_methodNamed Bd.named, (name_of_methodNamed Bd.named Bd.method).1, z_words (fun w hw => hts w (List.mem_cons_of_mem _ hw)) hnw, hK, by omega, hX, hbB, Nat.le_refl _, Nat.le_refl _⟩
  rw [lg_entry_eq]
  refine h p l e _ s m _ below meth c B b D cA _ hF ?_ s.heap [] 0 0 _ ⟨hP, by omega, va_S.rf, hn, by show 0 + _ ≤ ρ.2.2 - n; omega, by show 0 + _ ≤ z_ss ρ.2.2 - z_ss n; omega⟩ (z_ent_loc hlen)
  intro r σ' H locs cells slots ls pc hq hD hr
  have hc : cells = ρ.2.2 - n := by have := hD.2.1; omega
  have hs : slots ≤ z_ss ρ.2.2 - z_ss n := by
    have h1 := hD.2.2.2.2.2
    have h2 : (headSpec (.code M.1 M.2.1 M.2.2.1 M.2.2.2 :: z_tb) { frames := ρ.1, cells := ρ.2.2 - n, slots := z_ss ρ.2.2 - z_ss n, locals := ρ.2.1 }).room.slots = z_ss ρ.2.2 - z_ss n := rfl
    rw [h2] at h1
    omega
  have hlocks := Bd.notSynchronized
  subst hc
  refine W.widen (k := ρ.2.2 - n) (n := z_ss ρ.2.2 - z_ss n) (Nat.le_refl _) hs ?_
  have post : ∀ t : State, t.heap = H → z_qc ρ.2.2 P B b D cA (As.map (z_rv B b)).toArray s (.returned (z_ro B b r)) t := fun t ht => ⟨⟨r, σ', rfl, hq, by rw [ht]; exact hD.1⟩, hD.2.2.1.F ht⟩
  have hfr := hD.2.2.1.2.2
  obtain ⟨tg, x⟩ := r
  rcases hr with ⟨h0, h1, h2⟩ | ⟨h0, h1, h2⟩ | ⟨h0, h1, C, h2⟩ | ⟨h0, h1, h2⟩
  · dsimp only at h0
    subst h0
    rcases h2 with h2 | ⟨h2, h3⟩
    · exact W.iret (v := iz x) Bd.exec Bd.bytes (Bd.returns.trans h2) (fun t ht _ => post t ht) hfr h1
    · refine W.zret (v := iz x) Bd.exec Bd.bytes (Bd.returns.trans h2) ?_ (fun t ht _ => post t ht) hfr h1
      dsimp only at h3
      rcases h3 with rfl | rfl <;> rfl
  · dsimp only at h0
    subst h0
    exact W.lret (v := lz x) Bd.exec Bd.bytes (Bd.returns.trans h2) (fun t ht _ => post t ht) hfr h1
  · dsimp only at h0
    subst h0
    refine W.aret (v := va_rf (z_ref B x)) Bd.exec Bd.bytes (Bd.returns.trans h2) (Or.inl ⟨C, rfl⟩) ?_ (fun t ht _ => post t ht) hfr h1
    cases z_ref B x with
    | none => exact Or.inl rfl
    | some a => exact Or.inr ⟨a, rfl⟩
  · dsimp only at h0
    subst h0
    exact W.vret Bd.exec Bd.bytes (Bd.returns.trans h2) (fun t ht _ => post t ht) hfr h1
