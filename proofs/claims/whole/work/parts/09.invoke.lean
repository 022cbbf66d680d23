def z_psh (r : ZV) (st : List ZV) : List ZV := if r.1 = 9 then st else r :: st
def zb (b : Bool) : Int := if b then 1 else 0
/-- ends: an int, a truth value, a long, a reference, nothing -/
def zQi (T : Int → ZM → Prop) : ZV → ZM → Prop := fun r σ => r.1 = 0 ∧ T r.2 σ
def zQz (T : Bool → ZM → Prop) : ZV → ZM → Prop := fun r σ => r.1 = 0 ∧ ∃ b, r.2 = zb b ∧ T b σ
def zQl (T : Int → ZM → Prop) : ZV → ZM → Prop := fun r σ => r.1 = 1 ∧ T r.2 σ
def zQa (T : Int → ZM → Prop) : ZV → ZM → Prop := fun r σ => r.1 = 2 ∧ T r.2 σ
def zQv (T : ZM → Prop) : ZV → ZM → Prop := fun r σ => r.1 = 9 ∧ T σ
/-- a call of M with arguments As -/
def ZC (X : ZS) (ρ : ZR) (M : ZT) (As : List ZV) (n : Nat) (σ : ZM) (Q : ZV → ZM → Prop) : Prop := Z X ρ M 0 (z_ent M.2.2.1 As) [] n σ Q
section ZInv
variable {X : ZS} {ρ ρ' : ZR} {M M' : ZT} {pc : Nat} {L stk st : List ZV} {n : Nat} {σ : ZM} {Q P : ZV → ZM → Prop}
theorem z_ki {T : Int → ZM → Prop} (k : ∀ x σ', T x σ' → Z X ρ M pc L ((0, x) :: st) n σ' Q) (r : ZV) (σ' : ZM) (h : zQi T r σ') : Z X ρ M pc L (z_psh r st) n σ' Q := by
  obtain ⟨t, x⟩ := r
  obtain ⟨h0, h⟩ := h
  dsimp only at h0
  subst h0
  exact k x σ' h
theorem z_kz {T : Bool → ZM → Prop} (k : ∀ b σ', T b σ' → Z X ρ M pc L ((0, zb b) :: st) n σ' Q) (r : ZV) (σ' : ZM) (h : zQz T r σ') : Z X ρ M pc L (z_psh r st) n σ' Q := by
  obtain ⟨t, x⟩ := r
  obtain ⟨h0, b, hb, h⟩ := h
  dsimp only at h0 hb
  subst h0
  subst hb
  exact k b σ' h
theorem z_kl {T : Int → ZM → Prop} (k : ∀ x σ', T x σ' → Z X ρ M pc L ((1, x) :: st) n σ' Q) (r : ZV) (σ' : ZM) (h : zQl T r σ') : Z X ρ M pc L (z_psh r st) n σ' Q := by
  obtain ⟨t, x⟩ := r
  obtain ⟨h0, h⟩ := h
  dsimp only at h0
  subst h0
  exact k x σ' h
theorem z_ka {T : Int → ZM → Prop} (k : ∀ x σ', T x σ' → Z X ρ M pc L ((2, x) :: st) n σ' Q) (r : ZV) (σ' : ZM) (h : zQa T r σ') : Z X ρ M pc L (z_psh r st) n σ' Q := by
  obtain ⟨t, x⟩ := r
  obtain ⟨h0, h⟩ := h
  dsimp only at h0
  subst h0
  exact k x σ' h
theorem z_kv {T : ZM → Prop} (k : ∀ σ', T σ' → Z X ρ M pc L st n σ' Q) (r : ZV) (σ' : ZM) (h : zQv T r σ') : Z X ρ M pc L (z_psh r st) n σ' Q := by
  unfold z_psh
  rw [if_pos h.1]
  exact k σ' h.2
theorem z_rest (B b : Nat) (r : ZV) (st : List ZV) : (z_ro B b r).toList ++ st.map (z_rv B b) = (z_psh r st).map (z_rv B b) := by
  unfold z_ro z_psh
  by_cases h : r.1 = 9
  · rw [if_pos h, if_pos h]; rfl
  · rw [if_neg h, if_neg h]; rfl
theorem z_cont {p : Program} {l : Launch} {e : Env} {R : Room} {s : State} {m : MethodId} {args : Array Value} {below : List Frame} {meth : Method} {c : Code} {B b : Nat} {D : va_G} {cA : Nat → ClassId} {Qf : State → Prop} {H : Heap} {locs : List Loc} {cells slots : Nat} {ls : Array Slot} {stv : List Value} {av : Array Value}
    (hF : z_fix X ρ M p R s m args meth c B b D cA) (hE : z_end ρ M Q p l e R s m args below meth c B b D cA Qf) (hD : z_dyn ρ n σ D B cA R s H locs cells slots) (hL : z_loc B b M.2.2.1 L ls) (hz : H.size = B + n + 1)
    (hr : va_Run p l e R s m args below meth c H locs cells slots (ρ'.2.2 - n) (z_ss ρ'.2.2 - z_ss n) (F0 m pc ls stv) (st.map (z_rv B b)) (z_qc ρ'.2.2 P B b D cA av) (z_A B)) (hn : n ≤ ρ'.2.2) (hn1 : ρ'.2.2 ≤ ρ.2.2)
    (k : ∀ r σ', P r σ' → Z X ρ M (pc + 3) L (z_psh r st) ρ'.2.2 σ' Q) : W p l e R s m args below meth c H locs cells slots Qf (F0 m pc ls stv) := by
  intro T hT hX
  obtain ⟨v, st₀, t, T', Lc, h0, X', hLc, e1, e2, ⟨⟨r, σ', hv, hp, hP⟩, hz1, hk⟩, hst⟩ := hr T hT hX
  have hv : v = z_ro B b r := by injection hv
  subst hv
  rw [h0] at hz1 hk
  have hS := hD.2.2.1
  have h1 := hD.2.2.2.2.1
  have h2 := hD.2.2.2.2.2
  have hm1 := z_ss_mono hn
  have hm2 := z_ss_mono hn1
  have hd : z_dyn ρ ρ'.2.2 σ' D B cA R s T'.heap (locs ++ Lc) (cells + (ρ'.2.2 - n)) (slots + (z_ss ρ'.2.2 - z_ss n)) := by
    refine ⟨by rw [e1]; exact hP, by have := hD.2.1; omega, ⟨Nat.le_trans hS.1 (by rw [e1]; exact hz1), fun q g1 g2 => ?_, fun q hq => ?_⟩, hn1, by omega, by omega⟩
    · rw [e1, hk q (Nat.lt_of_lt_of_le g1 hS.1) g2]
      exact hS.2.1 q g1 g2
    · rcases List.mem_append.mp hq with g | g
      · exact hS.2.2 q g
      · exact hLc q g
  have kk := k r σ' hp p l e R s m args below meth c B b D cA Qf hF hE T'.heap (locs ++ Lc) _ _ ls hd hL
  rw [← z_rest] at kk
  obtain ⟨t2, a1, b1⟩ := kk T' rfl X'
  exact ⟨t2, hst t2 a1, b1⟩
theorem z_blind {B b : Nat} {D : va_G} {cA : Nat → ClassId} {As : List ZV} : FrameBlind (z_pc X n σ B b D cA As) := by
  intro a U g mk h
  obtain ⟨h0, hK, hP, hsz, hX, hb, hnw⟩ := h
  exact ⟨h0, va_K.moved (u := U) (U := U.calling g mk a) (Vm.Alike.refl U.vm) hK, hP, hsz, va_X.moved (u := U) (U := U.calling g mk a) (Vm.Alike.refl U.vm) hX, hb, fun w hw hz => z_bad_same (s := U) (U := U.calling g mk a) hz rfl (hnw w hw hz)⟩
theorem z_pre {p : Program} {R : Room} {s : State} {m : MethodId} {args : Array Value} {meth : Method} {c : Code} {B b : Nat} {D : va_G} {cA : Nat → ClassId} {H : Heap} {locs : List Loc} {cells slots : Nat} (As : List ZV)
    (hF : z_fix X ρ M p R s m args meth c B b D cA) (hD : z_dyn ρ n σ D B cA R s H locs cells slots) (hz : H.size = B + n + 1) : ∀ U : State, U.heap = H → s.WarmedH U.vm → z_pc X n σ B b D cA As (As.map (z_rv B b)).toArray U := by
  intro U hU hW
  have hb := hF.2.2.2.2.2.2.2.2.2.2.2.1
  have hB := hF.2.2.2.2.2.2.2.2.2.1
  refine ⟨rfl, va_K.moved hW.alike hF.2.2.2.2.2.2.2.2.1, by rw [hU]; exact hD.1, by rw [hU]; exact hz, ?_, hb, fun w hw hz => z_bad_warm hz hW (z_bad_of hz (hF.2.2.2.2.2.2.2.1 w hw))⟩
  rw [hU]
  refine (hF.2.2.2.2.2.2.2.2.2.2.1.kept ?_).moved hW.alike
  exact hD.2.2.1.2.1 b (Nat.lt_of_le_of_lt hb hB) (Nat.not_lt.mpr hb)
theorem z_callB {p : Program} {R : Room} {s : State} {m : MethodId} {args : Array Value} {meth : Method} {c : Code} {B b : Nat} {D : va_G} {cA : Nat → ClassId} {idx k : Nat}
    (hF : z_fix X ρ M p R s m args meth c B b D cA) (hcode : Cond.code M'.1 M'.2.1 M'.2.2.1 M'.2.2.2 ∈ z_us) (hini : Cond.initialized M'.1.cls ∈ z_us) (hlink : Cond.methodLink M.1.cls idx M'.1 ∈ z_us) (hy : M'.1.cls ≠ "java/lang/invoke/MethodHandle" ∧ M'.1.cls ≠ "java/lang/invoke/VarHandle" ∧ (parseMethodDescriptor M'.1.desc).map (fun d => d.parameters.length) = some k) (hR1 : ρ'.1 + 1 ≤ ρ.1) (hR2 : 8 + (M'.2.2.1 + 11) + ρ'.2.1 ≤ ρ.2.1) :
    CallB R s args M.1.cls idx M'.1 M'.2.1 M'.2.2.1 M'.2.2.2 (.code M'.1 M'.2.1 M'.2.2.1 M'.2.2.2 :: z_tb) { frames := ρ'.1, cells := ρ'.2.2 - n, slots := z_ss ρ'.2.2 - z_ss n, locals := ρ'.2.1 } (ρ'.2.2 - n) (z_ss ρ'.2.2 - z_ss n) k := by
  have hts := hF.2.2.2.2.2.2.2.1
  have g1 := hF.2.2.2.2.2.2.2.2.2.2.2.2.1
  have g2 := hF.2.2.2.2.2.2.2.2.2.2.2.2.2
  exact callB_of k hts (z_goodc hcode) rfl rfl rfl (hts _ hini) (hts _ hlink) hy ⟨Nat.le_trans hR1 g1, Nat.le_trans hR2 g2⟩
theorem z_callN {p : Program} {R : Room} {s : State} {m : MethodId} {args : Array Value} {meth : Method} {c : Code} {B b : Nat} {D : va_G} {cA : Nat → ClassId} {idx k : Nat} {host : String}
    (hF : z_fix X ρ M p R s m args meth c B b D cA) (hcode : Cond.code M'.1 M'.2.1 M'.2.2.1 M'.2.2.2 ∈ z_us) (hini : Cond.initialized M'.1.cls ∈ z_us) (hlink : Cond.methodLinkNest M.1.cls idx M'.1 host ∈ z_us) (hy : M'.1.cls ≠ "java/lang/invoke/MethodHandle" ∧ M'.1.cls ≠ "java/lang/invoke/VarHandle" ∧ (parseMethodDescriptor M'.1.desc).map (fun d => d.parameters.length) = some k) (hR1 : ρ'.1 + 1 ≤ ρ.1) (hR2 : 8 + (M'.2.2.1 + 11) + ρ'.2.1 ≤ ρ.2.1) :
    va_CN R s args M.1.cls idx M'.1 host M'.2.1 M'.2.2.1 M'.2.2.2 (.code M'.1 M'.2.1 M'.2.2.1 M'.2.2.2 :: z_tb) { frames := ρ'.1, cells := ρ'.2.2 - n, slots := z_ss ρ'.2.2 - z_ss n, locals := ρ'.2.1 } (ρ'.2.2 - n) (z_ss ρ'.2.2 - z_ss n) k := by
  have hts := hF.2.2.2.2.2.2.2.1
  have g1 := hF.2.2.2.2.2.2.2.2.2.2.2.2.1
  have g2 := hF.2.2.2.2.2.2.2.2.2.2.2.2.2
  exact va_cnB k hts (z_goodc hcode) rfl rfl rfl (z_bad_of rfl (hts _ hlink)) (hts _ hini) hy ⟨Nat.le_trans hR1 g1, Nat.le_trans hR2 g2⟩
/-- what a call needs of the callee, decided from its tables -/
def z_cl (ρ ρ' : ZR) (M' : ZT) (As st : List ZV) (n k : Nat) : Prop := plainFor M'.1 = true ∧ (z_sl As).length ≤ M'.2.2.1 ∧ n ≤ ρ'.2.2 ∧ ρ'.2.2 ≤ ρ.2.2 ∧ Cond.code M'.1 M'.2.1 M'.2.2.1 M'.2.2.2 ∈ z_us ∧ Cond.initialized M'.1.cls ∈ z_us ∧ (M'.1.cls ≠ "java/lang/invoke/MethodHandle" ∧ M'.1.cls ≠ "java/lang/invoke/VarHandle" ∧ (parseMethodDescriptor M'.1.desc).map (fun d => d.parameters.length) = some k) ∧ ρ'.1 + 1 ≤ ρ.1 ∧ 8 + (M'.2.2.1 + 11) + ρ'.2.1 ≤ ρ.2.1 ∧ (st.map (fun v => if v.1 = 1 then 2 else 1)).sum ≤ 8
theorem z_fits {R : Room} {s : State} {B : Nat} {D : va_G} {cA : Nat → ClassId} {H : Heap} {locs : List Loc} {cells slots : Nat} (hD : z_dyn ρ n σ D B cA R s H locs cells slots) (hn : n ≤ ρ'.2.2) (hn1 : ρ'.2.2 ≤ ρ.2.2) : cells + (ρ'.2.2 - n) ≤ R.cells ∧ slots + (z_ss ρ'.2.2 - z_ss n) ≤ R.slots := by
  have h1 := hD.2.2.2.2.1
  have h2 := hD.2.2.2.2.2
  have hm1 := z_ss_mono hn
  have hm2 := z_ss_mono hn1
  omega
theorem Z_invV {C : String} {T : u_T} {N ci idx k : Nat} {a : Int} (As : List ZV) (hd : decode M.2.1 pc = .ok (.invokevirtual idx, 3)) (hs : stk = As.reverse ++ (2, a) :: st) (hk : As.length = k) (hl : z_l a = (ci, N)) (han : a.toNat ≤ n) (hci : ci < 20) (hc : vwCl[ci]? = some (C, T, N)) (hC : M'.1.cls = C) (hcl : z_cl ρ ρ' M' ((2, a) :: As) st n k) (hw : Cond.methodLink M.1.cls idx M'.1 ∈ z_us ∨ ∃ host, Cond.methodLinkNest M.1.cls idx M'.1 host ∈ z_us) (hw2 : Cond.instanceMethod M'.1 ∈ z_us) (hw3 : Cond.selects C M'.1 M'.1 ∈ z_us)
    (hM : Z X ρ' M' 0 (z_ent M'.2.2.1 ((2, a) :: As)) [] n σ P) (kk : ∀ r σ', P r σ' → Z X ρ M (pc + 3) L (z_psh r st) ρ'.2.2 σ' Q) : Z X ρ M pc L stk n σ Q := by
  have hp : 0 < a := (z_l_pos (by rw [hl]; show ci ≠ 99; omega)).1
  obtain ⟨hpl, hlen, hn, hn1, hcode, hini, hy, hR1, hR2, h8⟩ := hcl
  subst hs
  subst hC
  intro p l e R s m args below meth c B b D cA Qf hF hE H locs cells slots ls hD hL
  refine z_sized hF hD (fun hz => ?_)
  have hmet := z_met hM hpl hlen hn l B b D cA
  have hts := hF.2.2.2.2.2.2.2.1
  have he := z_ws_at (B := B) (cA := cA) (σ := σ) hp han
  rw [z_cell_obj (ci := ci) (N := N) (by rw [z_toNat hp]; exact hl) hci] at he
  have hrec := va_recv hF.2.2.2.2.2.2.2.2.1 hD.1 hc he
  have hpre := z_pre ((2, a) :: As) hF hD hz
  rw [List.map_cons, z_rv2, z_refp hp] at hpre
  have hstk : (As.reverse ++ (2, a) :: st).map (z_rv B b) = (As.map (z_rv B b)).reverse ++ Value.ref (B + a.toNat) :: st.map (z_rv B b) := by
    rw [List.map_append, List.map_cons, List.map_reverse, z_rv2, z_refp hp]
    rfl
  rw [hstk]
  rcases hw with hw | ⟨host, hw⟩
  · exact z_cont hF hE hD hL hz (va_runV ⟨hF.1, hF.2.1, hF.2.2.2.2.1, hF.2.2.2.2.2.1, hts⟩ hmet ⟨z_callB hF hcode hini hw hy hR1 hR2, hts _ hw2, hts _ hw3⟩ ⟨z_blind, hrec, hpre⟩ rfl (by rw [List.length_map]; exact hk) hL.1 rfl (lv_room (by rw [z_cats]; exact h8)) hd (z_fits hD hn hn1)) hn hn1 kk
  · exact z_cont hF hE hD hL hz (va_runVN ⟨hF.1, hF.2.1, hF.2.2.2.2.1, hF.2.2.2.2.2.1, hts⟩ hmet ⟨z_callN hF hcode hini hw hy hR1 hR2, hts _ hw2, hts _ hw3⟩ ⟨z_blind, hrec, hpre⟩ rfl (by rw [List.length_map]; exact hk) hL.1 rfl (lv_room (by rw [z_cats]; exact h8)) hd (z_fits hD hn hn1)) hn hn1 kk
theorem Z_invS {idx k : Nat} (As : List ZV) (hd : decode M.2.1 pc = .ok (.invokestatic idx, 3)) (hs : stk = As.reverse ++ st) (hk : As.length = k) (hcl : z_cl ρ ρ' M' As st n k) (hw : Cond.methodLink M.1.cls idx M'.1 ∈ z_us ∨ ∃ host, Cond.methodLinkNest M.1.cls idx M'.1 host ∈ z_us) (hw2 : Cond.static M'.1 ∈ z_us)
    (hM : Z X ρ' M' 0 (z_ent M'.2.2.1 As) [] n σ P) (kk : ∀ r σ', P r σ' → Z X ρ M (pc + 3) L (z_psh r st) ρ'.2.2 σ' Q) : Z X ρ M pc L stk n σ Q := by
  obtain ⟨hpl, hlen, hn, hn1, hcode, hini, hy, hR1, hR2, h8⟩ := hcl
  subst hs
  intro p l e R s m args below meth c B b D cA Qf hF hE H locs cells slots ls hD hL
  refine z_sized hF hD (fun hz => ?_)
  have hmet := z_met hM hpl hlen hn l B b D cA
  have hts := hF.2.2.2.2.2.2.2.1
  have hpre := z_pre As hF hD hz
  have hstk : (As.reverse ++ st).map (z_rv B b) = (As.map (z_rv B b)).reverse ++ st.map (z_rv B b) := by
    rw [List.map_append, List.map_reverse]
  rw [hstk]
  rcases hw with hw | ⟨host, hw⟩
  · exact z_cont hF hE hD hL hz (va_runS ⟨hF.1, hF.2.1, hF.2.2.2.2.1, hF.2.2.2.2.2.1, hts⟩ hmet ⟨z_callB hF hcode hini hw hy hR1 hR2, hts _ hw2⟩ ⟨z_blind, hpre⟩ rfl (by rw [List.length_map]; exact hk) hL.1 rfl (lv_room (by rw [z_cats]; exact h8)) hd (z_fits hD hn hn1)) hn hn1 kk
  · exact z_cont hF hE hD hL hz (va_runSN ⟨hF.1, hF.2.1, hF.2.2.2.2.1, hF.2.2.2.2.2.1, hts⟩ hmet ⟨z_callN hF hcode hini hw hy hR1 hR2, hts _ hw2, trivial⟩ ⟨z_blind, hpre⟩ rfl (by rw [List.length_map]; exact hk) hL.1 rfl (lv_room (by rw [z_cats]; exact h8)) hd (z_fits hD hn hn1)) hn hn1 kk
theorem Z_invI {idx k : Nat} {a : Int} (As : List ZV) (hd : decode M.2.1 pc = .ok (.invokespecial idx, 3)) (hs : stk = As.reverse ++ (2, a) :: st) (ha : 0 < a) (hk : As.length = k) (hret : M'.2.2.2 = none) (hname : M'.1.name = "<init>") (hcl : z_cl ρ ρ' M' ((2, a) :: As) st n k) (hw : Cond.methodLink M.1.cls idx M'.1 ∈ z_us ∨ ∃ host, Cond.methodLinkNest M.1.cls idx M'.1 host ∈ z_us) (hw2 : Cond.instanceMethod M'.1 ∈ z_us)
    (hM : Z X ρ' M' 0 (z_ent M'.2.2.1 ((2, a) :: As)) [] n σ P) (kk : ∀ r σ', P r σ' → Z X ρ M (pc + 3) L (z_psh r st) ρ'.2.2 σ' Q) : Z X ρ M pc L stk n σ Q := by
  obtain ⟨hpl, hlen, hn, hn1, hcode, hini, hy, hR1, hR2, h8⟩ := hcl
  subst hs
  intro p l e R s m args below meth c B b D cA Qf hF hE H locs cells slots ls hD hL
  refine z_sized hF hD (fun hz => ?_)
  have hmet := z_met hM hpl hlen hn l B b D cA
  rw [hret] at hmet
  have hts := hF.2.2.2.2.2.2.2.1
  have hpre := z_pre ((2, a) :: As) hF hD hz
  rw [List.map_cons, z_rv2, z_refp ha] at hpre
  have hstk : (As.reverse ++ (2, a) :: st).map (z_rv B b) = (As.map (z_rv B b)).reverse ++ Value.ref (B + a.toNat) :: st.map (z_rv B b) := by
    rw [List.map_append, List.map_cons, List.map_reverse, z_rv2, z_refp ha]
    rfl
  rw [hstk]
  rcases hw with hw | ⟨host, hw⟩
  · have hB := z_callB (n := n) hF hcode hini hw hy hR1 hR2
    rw [hret] at hB
    exact z_cont hF hE hD hL hz (va_runI ⟨hF.1, hF.2.1, hF.2.2.2.2.1, hF.2.2.2.2.2.1, hts⟩ hmet ⟨hB, hname, hts _ hw2⟩ ⟨z_blind, hpre⟩ rfl (by rw [List.length_map]; exact hk) hL.1 rfl (lv_room (by rw [z_cats]; exact h8)) hd (z_fits hD hn hn1)) hn hn1 kk
  · have hB := z_callN (n := n) hF hcode hini hw hy hR1 hR2
    rw [hret] at hB
    exact z_cont hF hE hD hL hz (va_runIN ⟨hF.1, hF.2.1, hF.2.2.2.2.1, hF.2.2.2.2.2.1, hts⟩ hmet ⟨hB, hname, hts _ hw2⟩ ⟨z_blind, hpre⟩ rfl (by rw [List.length_map]; exact hk) hL.1 rfl (lv_room (by rw [z_cats]; exact h8)) hd (z_fits hD hn hn1)) hn hn1 kk
/-! what a program knows of a method -/
def z_k (M : ZT) (k : Nat) : Prop := plainFor M.1 = true ∧ Cond.code M.1 M.2.1 M.2.2.1 M.2.2.2 ∈ z_us ∧ Cond.initialized M.1.cls ∈ z_us ∧ (M.1.cls ≠ "java/lang/invoke/MethodHandle" ∧ M.1.cls ≠ "java/lang/invoke/VarHandle" ∧ (parseMethodDescriptor M.1.desc).map (fun d => d.parameters.length) = some k)
theorem z_k.cl {As st : List ZV} {k : Nat} (h : z_k M' k) (h1 : (z_sl As).length ≤ M'.2.2.1) (h2 : n ≤ ρ'.2.2) (h3 : ρ'.2.2 ≤ ρ.2.2) (h4 : ρ'.1 + 1 ≤ ρ.1) (h5 : 8 + (M'.2.2.1 + 11) + ρ'.2.1 ≤ ρ.2.1) (h6 : (st.map (fun v => if v.1 = 1 then 2 else 1)).sum ≤ 8) : z_cl ρ ρ' M' As st n k := ⟨h.1, h1, h2, h3, h.2.1, h.2.2.1, h.2.2.2, h4, h5, h6⟩
/-- truth values on the stack -/
theorem zb_r (b : Bool) : r32 (zb b) := by cases b <;> decide
theorem zb_0 (b : Bool) : zb b = 0 ↔ b = false := by cases b <;> decide
theorem Z_zif_eq {b : Bool} {off : Int} {tgt : Nat} (hd : decode M.2.1 pc = .ok (.ifCond .eq off, 3)) (ht : (pc : Int) + off = (tgt : Int)) (k1 : b = false → Z X ρ M tgt L st n σ Q) (k2 : b = true → Z X ρ M (pc + 3) L st n σ Q) : Z X ρ M pc L ((0, zb b) :: st) n σ Q :=
  Z_if_eq hd ht (zb_r b) (fun h => k1 ((zb_0 b).mp h)) (fun h => k2 (by cases b; exact absurd rfl h; rfl))
theorem Z_zif_ne {b : Bool} {off : Int} {tgt : Nat} (hd : decode M.2.1 pc = .ok (.ifCond .ne off, 3)) (ht : (pc : Int) + off = (tgt : Int)) (k1 : b = true → Z X ρ M tgt L st n σ Q) (k2 : b = false → Z X ρ M (pc + 3) L st n σ Q) : Z X ρ M pc L ((0, zb b) :: st) n σ Q :=
  Z_if_ne hd ht (zb_r b) (fun h => k1 (by cases b; exact absurd rfl h; rfl)) (fun h => k2 ((zb_0 b).mp h))
theorem Z_lc_lt {x y off : Int} {tgt : Nat} (hd0 : decode M.2.1 pc = .ok (.lcmp, 1)) (hd : decode M.2.1 (pc + 1) = .ok (.ifCond .lt off, 3)) (ht : ((pc + 1 : Nat) : Int) + off = (tgt : Int)) (hx : r64 x) (hy : r64 y) (k1 : x < y → Z X ρ M tgt L st n σ Q) (k2 : ¬ x < y → Z X ρ M (pc + 1 + 3) L st n σ Q) : Z X ρ M pc L ((1, y) :: (1, x) :: st) n σ Q :=
  Z_lcmp hd0 hx hy (Z_if_lt hd ht (by split; decide; split <;> decide) (fun h => k1 (by split at h; omega; split at h <;> omega)) (fun h => k2 (by split at h; omega; split at h <;> omega)))
theorem Z_lc_ge {x y off : Int} {tgt : Nat} (hd0 : decode M.2.1 pc = .ok (.lcmp, 1)) (hd : decode M.2.1 (pc + 1) = .ok (.ifCond .ge off, 3)) (ht : ((pc + 1 : Nat) : Int) + off = (tgt : Int)) (hx : r64 x) (hy : r64 y) (k1 : y ≤ x → Z X ρ M tgt L st n σ Q) (k2 : ¬ y ≤ x → Z X ρ M (pc + 1 + 3) L st n σ Q) : Z X ρ M pc L ((1, y) :: (1, x) :: st) n σ Q :=
  Z_lcmp hd0 hx hy (Z_if_ge hd ht (by split; decide; split <;> decide) (fun h => k1 (by split at h; omega; split at h <;> omega)) (fun h => k2 (by split at h; omega; split at h <;> omega)))
theorem Z_lc_gt {x y off : Int} {tgt : Nat} (hd0 : decode M.2.1 pc = .ok (.lcmp, 1)) (hd : decode M.2.1 (pc + 1) = .ok (.ifCond .gt off, 3)) (ht : ((pc + 1 : Nat) : Int) + off = (tgt : Int)) (hx : r64 x) (hy : r64 y) (k1 : y < x → Z X ρ M tgt L st n σ Q) (k2 : ¬ y < x → Z X ρ M (pc + 1 + 3) L st n σ Q) : Z X ρ M pc L ((1, y) :: (1, x) :: st) n σ Q :=
  Z_lcmp hd0 hx hy (Z_if_gt hd ht (by split; decide; split <;> decide) (fun h => k1 (by split at h; omega; split at h <;> omega)) (fun h => k2 (by split at h; omega; split at h <;> omega)))
theorem Z_lc_le {x y off : Int} {tgt : Nat} (hd0 : decode M.2.1 pc = .ok (.lcmp, 1)) (hd : decode M.2.1 (pc + 1) = .ok (.ifCond .le off, 3)) (ht : ((pc + 1 : Nat) : Int) + off = (tgt : Int)) (hx : r64 x) (hy : r64 y) (k1 : x ≤ y → Z X ρ M tgt L st n σ Q) (k2 : ¬ x ≤ y → Z X ρ M (pc + 1 + 3) L st n σ Q) : Z X ρ M pc L ((1, y) :: (1, x) :: st) n σ Q :=
  Z_lcmp hd0 hx hy (Z_if_le hd ht (by split; decide; split <;> decide) (fun h => k1 (by split at h; omega; split at h <;> omega)) (fun h => k2 (by split at h; omega; split at h <;> omega)))
theorem Z_lc_eq {x y off : Int} {tgt : Nat} (hd0 : decode M.2.1 pc = .ok (.lcmp, 1)) (hd : decode M.2.1 (pc + 1) = .ok (.ifCond .eq off, 3)) (ht : ((pc + 1 : Nat) : Int) + off = (tgt : Int)) (hx : r64 x) (hy : r64 y) (k1 : x = y → Z X ρ M tgt L st n σ Q) (k2 : ¬ x = y → Z X ρ M (pc + 1 + 3) L st n σ Q) : Z X ρ M pc L ((1, y) :: (1, x) :: st) n σ Q :=
  Z_lcmp hd0 hx hy (Z_if_eq hd ht (by split; decide; split <;> decide) (fun h => k1 (by split at h; omega; split at h <;> omega)) (fun h => k2 (by split at h; omega; split at h <;> omega)))
theorem Z_lc_ne {x y off : Int} {tgt : Nat} (hd0 : decode M.2.1 pc = .ok (.lcmp, 1)) (hd : decode M.2.1 (pc + 1) = .ok (.ifCond .ne off, 3)) (ht : ((pc + 1 : Nat) : Int) + off = (tgt : Int)) (hx : r64 x) (hy : r64 y) (k1 : ¬ x = y → Z X ρ M tgt L st n σ Q) (k2 : x = y → Z X ρ M (pc + 1 + 3) L st n σ Q) : Z X ρ M pc L ((1, y) :: (1, x) :: st) n σ Q :=
  Z_lcmp hd0 hx hy (Z_if_ne hd ht (by split; decide; split <;> decide) (fun h => k1 (by split at h; omega; split at h <;> omega)) (fun h => k2 (by split at h; omega; split at h <;> omega)))
theorem Z_few {L' : List ZV} (h : ∀ (i : Nat) (v : ZV), L'[i]? = some v → v.1 ≠ 9 → L[i]? = some v) (k : Z X ρ M pc L' st n σ Q) : Z X ρ M pc L st n σ Q := by
  refine Z_pure (L' := L') (fun p l e R s m args below meth c B b D cA Qf H locs cells slots ls hF hD hL kk => ?_) k
  exact kk ls ⟨hL.1, hL.2.1, fun i v hv h9 => hL.2.2 i v (h i v hv h9) h9⟩
theorem z_few_0 : ∀ (i : Nat) (v : ZV), ([] : List ZV)[i]? = some v → v.1 ≠ 9 → ([] : List ZV)[i]? = some v := fun i v h => by simp at h
theorem z_few_k {w : ZV} {t t' : List ZV} (h : ∀ (i : Nat) (v : ZV), t'[i]? = some v → v.1 ≠ 9 → t[i]? = some v) : ∀ (i : Nat) (v : ZV), (w :: t')[i]? = some v → v.1 ≠ 9 → (w :: t)[i]? = some v := fun i v hv h9 => by
  cases i with
  | zero => exact hv
  | succ i => exact h i v hv h9
theorem z_few_d {w : ZV} {x : Int} {t t' : List ZV} (h : ∀ (i : Nat) (v : ZV), t'[i]? = some v → v.1 ≠ 9 → t[i]? = some v) : ∀ (i : Nat) (v : ZV), ((9, x) :: t')[i]? = some v → v.1 ≠ 9 → (w :: t)[i]? = some v := fun i v hv h9 => by
  cases i with
  | zero => simp at hv; rw [← hv] at h9; exact absurd rfl h9
  | succ i => exact h i v hv h9
/-- a value known otherwise -/
theorem Z_top {t : Nat} {x y : Int} (h : x = y) (k : Z X ρ M pc L ((t, y) :: st) n σ Q) : Z X ρ M pc L ((t, x) :: st) n σ Q := h ▸ k
end ZInv
