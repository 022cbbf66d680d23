/-! own machine: values are a tag and a whole number (0 int, 1 long, 2 reference with 0 for null, 3 the script, 9 nothing); memory is whole numbers by cell and place -/
abbrev ZV : Type := Nat × Int
abbrev ZM : Type := Int → Int → Int
abbrev ZT : Type := MethodName × ByteArray × Nat × Option FieldType
abbrev ZR : Type := Nat × Nat × Nat
abbrev ZS : Type := Nat × (Nat → Int32)
def iz (x : Int) : Int32 := Int32.ofInt x
def lz (x : Int) : Int64 := Int64.ofInt x
def z_ref (B : Nat) (x : Int) : Option Nat := if x = 0 then none else some (B + x.toNat)
def z_rv (B b : Nat) (v : ZV) : Value := match v.1 with
  | 0 => .int (iz v.2)
  | 1 => .long (lz v.2)
  | 2 => va_rf (z_ref B v.2)
  | _ => .ref b
theorem z_rv0 (B b : Nat) (x : Int) : z_rv B b (0, x) = .int (iz x) := rfl
theorem z_rv1 (B b : Nat) (x : Int) : z_rv B b (1, x) = .long (lz x) := rfl
theorem z_rv2 (B b : Nat) (x : Int) : z_rv B b (2, x) = va_rf (z_ref B x) := rfl
theorem z_rv3 (B b : Nat) (x : Int) : z_rv B b (3, x) = .ref b := rfl
theorem z_ref_pos {B : Nat} {a : Nat} (h : 0 < a) : z_ref B (a : Int) = some (B + a) := by
  unfold z_ref
  rw [if_neg (by omega)]
  simp
def z_l (a : Int) : Nat × Nat := z_lay.getD a.toNat (99, 0)
def z_ss (n : Nat) : Nat := ((z_lay.take (n + 1)).map (fun q => q.2)).sum
def z_cell (B : Nat) (cA : Nat → ClassId) (σ : ZM) (a : Nat) : va_E :=
  match (z_l a).1 with
  | 20 => .inl (cA 0, (z_l a).2, .inl (fun j => iz (σ a j)))
  | 21 => .inl (cA 1, (z_l a).2, .inr (.inl (fun j => lz (σ a j))))
  | 22 => .inl (cA 2, (z_l a).2, .inl (fun j => iz (σ a j)))
  | 23 => .inl (cA 3, (z_l a).2, .inr (.inr (.inr (.inr (fun j => z_ref B (σ a j))))))
  | k => .inr (k, (List.range (z_l a).2).map (fun i => z_rv B 0 (z_ft k i, σ a i)))
def z_ws (B : Nat) (cA : Nat → ClassId) (σ : ZM) (n : Nat) : va_W := (List.range n).map (fun k => (B + (k + 1), z_cell B cA σ (k + 1)))
def z_tys (cA : Nat → ClassId) : List (ClassId × FieldType) := [(cA 0, .int), (cA 1, .long), (cA 2, .boolean), (cA 3, .object RX9)]
def z_A (B : Nat) : Nat → Prop := fun q => B < q
/-- what stays the same through a method's run -/
def z_fix (X : ZS) (ρ : ZR) (M : ZT) (p : Program) (R : Room) (s : State) (m : MethodId) (args : Array Value) (meth : Method) (c : Code) (B b : Nat) (D : va_G) (cA : Nat → ClassId) : Prop :=
  p.tables.exec = Jvm.exec ∧ c.code = M.2.1 ∧ meth.sig.returnType = M.2.2.2 ∧ meth.locks = false ∧ c.maxLocals = M.2.2.1 ∧ s.vm.findClass M.1.cls = some m.cls ∧ meth.name = M.1.name ∧ (∀ w ∈ z_us, w.before args s = true) ∧ va_K D vwCl (z_tys cA) s ∧ B < s.heap.size ∧ va_X b X.1 X.2 s s.heap ∧ b ≤ B ∧ ρ.1 ≤ R.frames ∧ ρ.2.1 ≤ R.locals
/-- what moves: the heap with its n cells, and the room that is left -/
def z_dyn (ρ : ZR) (n : Nat) (σ : ZM) (D : va_G) (B : Nat) (cA : Nat → ClassId) (R : Room) (s : State) (H : Heap) (locs : List Loc) (cells slots : Nat) : Prop :=
  va_P D vwCl (z_ws B cA σ n) H ∧ cells + s.heap.size = B + n + 1 ∧ va_S (z_A B) s.heap H locs ∧ n ≤ ρ.2.2 ∧ cells + (ρ.2.2 - n) ≤ R.cells ∧ slots + (z_ss ρ.2.2 - z_ss n) ≤ R.slots
def z_loc (B b nL : Nat) (L : List ZV) (ls : Array Slot) : Prop := ls.size = nL ∧ lv_wf ls ∧ ∀ (i : Nat) (v : ZV), L[i]? = some v → v.1 ≠ 9 → ls[i]? = some (.val (z_rv B b v))
def z_ret (M : ZT) (pc : Nat) (r : ZV) : Prop :=
  (r.1 = 0 ∧ decode M.2.1 pc = .ok (.ireturn, 1) ∧ (M.2.2.2 = some .int ∨ (M.2.2.2 = some .boolean ∧ (r.2 = 0 ∨ r.2 = 1)))) ∨ (r.1 = 1 ∧ decode M.2.1 pc = .ok (.lreturn, 1) ∧ M.2.2.2 = some .long) ∨
  (r.1 = 2 ∧ decode M.2.1 pc = .ok (.areturn, 1) ∧ ∃ C, M.2.2.2 = some (.object C)) ∨ (r.1 = 9 ∧ decode M.2.1 pc = .ok (.return_, 1) ∧ M.2.2.2 = none)
def z_rst (B b : Nat) (r : ZV) : List Value := if r.1 = 9 then [] else [z_rv B b r]
def z_end (ρ : ZR) (M : ZT) (Q : ZV → ZM → Prop) (p : Program) (l : Launch) (e : Env) (R : Room) (s : State) (m : MethodId) (args : Array Value) (below : List Frame) (meth : Method) (c : Code) (B b : Nat) (D : va_G) (cA : Nat → ClassId) (Qf : State → Prop) : Prop :=
  ∀ (r : ZV) (σ : ZM) (H : Heap) (locs : List Loc) (cells slots : Nat) (ls : Array Slot) (pc : Nat), Q r σ → z_dyn ρ ρ.2.2 σ D B cA R s H locs cells slots → z_ret M pc r → W p l e R s m args below meth c H locs cells slots Qf (F0 m pc ls (z_rst B b r))
/-- method M at pc, with locals L, stack st, n cells and memory σ, comes to a return with Q -/
def Z (X : ZS) (ρ : ZR) (M : ZT) (pc : Nat) (L st : List ZV) (n : Nat) (σ : ZM) (Q : ZV → ZM → Prop) : Prop :=
  ∀ (p : Program) (l : Launch) (e : Env) (R : Room) (s : State) (m : MethodId) (args : Array Value) (below : List Frame) (meth : Method) (c : Code) (B b : Nat) (D : va_G) (cA : Nat → ClassId) (Qf : State → Prop),
    z_fix X ρ M p R s m args meth c B b D cA → z_end ρ M Q p l e R s m args below meth c B b D cA Qf →
    ∀ (H : Heap) (locs : List Loc) (cells slots : Nat) (ls : Array Slot), z_dyn ρ n σ D B cA R s H locs cells slots → z_loc B b M.2.2.1 L ls →
    W p l e R s m args below meth c H locs cells slots Qf (F0 m pc ls (st.map (z_rv B b)))
theorem Z_mono {X : ZS} {ρ : ZR} {M : ZT} {pc : Nat} {L st : List ZV} {n : Nat} {σ : ZM} {Q Q' : ZV → ZM → Prop} (h : Z X ρ M pc L st n σ Q) (hq : ∀ r σ', Q r σ' → Q' r σ') : Z X ρ M pc L st n σ Q' := by
  intro p l e R s m args below meth c B b D cA Qf hF hE H locs cells slots ls hD hL
  exact h p l e R s m args below meth c B b D cA Qf hF (fun r σ H locs cells slots ls pc hr => hE r σ H locs cells slots ls pc (hq r σ hr)) H locs cells slots ls hD hL
/-- an instruction that touches neither heap nor room -/
theorem Z_pure {X : ZS} {ρ : ZR} {M : ZT} {pc pc' : Nat} {L L' st st' : List ZV} {n : Nat} {σ : ZM} {Q : ZV → ZM → Prop}
    (h : ∀ (p : Program) (l : Launch) (e : Env) (R : Room) (s : State) (m : MethodId) (args : Array Value) (below : List Frame) (meth : Method) (c : Code) (B b : Nat) (D : va_G) (cA : Nat → ClassId) (Qf : State → Prop) (H : Heap) (locs : List Loc) (cells slots : Nat) (ls : Array Slot), z_fix X ρ M p R s m args meth c B b D cA → z_dyn ρ n σ D B cA R s H locs cells slots → z_loc B b M.2.2.1 L ls →
      (∀ ls', z_loc B b M.2.2.1 L' ls' → W p l e R s m args below meth c H locs cells slots Qf (F0 m pc' ls' (st'.map (z_rv B b)))) → W p l e R s m args below meth c H locs cells slots Qf (F0 m pc ls (st.map (z_rv B b))))
    (k : Z X ρ M pc' L' st' n σ Q) : Z X ρ M pc L st n σ Q := by
  intro p l e R s m args below meth c B b D cA Qf hF hE H locs cells slots ls hD hL
  exact h p l e R s m args below meth c B b D cA Qf H locs cells slots ls hF hD hL (fun ls' hL' => k p l e R s m args below meth c B b D cA Qf hF hE H locs cells slots ls' hD hL')
/-- the same with two ways on -/
theorem Z_pure2 {X : ZS} {ρ : ZR} {M : ZT} {pc pc1 pc2 : Nat} {L st st1 st2 : List ZV} {n : Nat} {σ : ZM} {Q : ZV → ZM → Prop} {c1 c2 : Prop}
    (h : ∀ (p : Program) (l : Launch) (e : Env) (R : Room) (s : State) (m : MethodId) (args : Array Value) (below : List Frame) (meth : Method) (c : Code) (B b : Nat) (Qf : State → Prop) (H : Heap) (locs : List Loc) (cells slots : Nat) (ls : Array Slot), p.tables.exec = Jvm.exec → c.code = M.2.1 →
      (c1 → W p l e R s m args below meth c H locs cells slots Qf (F0 m pc1 ls (st1.map (z_rv B b)))) → (c2 → W p l e R s m args below meth c H locs cells slots Qf (F0 m pc2 ls (st2.map (z_rv B b)))) → W p l e R s m args below meth c H locs cells slots Qf (F0 m pc ls (st.map (z_rv B b))))
    (k1 : c1 → Z X ρ M pc1 L st1 n σ Q) (k2 : c2 → Z X ρ M pc2 L st2 n σ Q) : Z X ρ M pc L st n σ Q := by
  intro p l e R s m args below meth c B b D cA Qf hF hE H locs cells slots ls hD hL
  exact h p l e R s m args below meth c B b Qf H locs cells slots ls hF.1 hF.2.1 (fun h1 => k1 h1 p l e R s m args below meth c B b D cA Qf hF hE H locs cells slots ls hD hL) (fun h2 => k2 h2 p l e R s m args below meth c B b D cA Qf hF hE H locs cells slots ls hD hL)
