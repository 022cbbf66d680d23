/-! memory -/
def z_up (σ : ZM) (a i x : Int) : ZM := fun a' i' => if a' = a ∧ i' = i then x else σ a' i'
def z_new (σ : ZM) (a : Int) : ZM := fun a' i' => if a' = a then 0 else σ a' i'
theorem z_up_same (σ : ZM) (a i x : Int) : z_up σ a i x a i = x := by simp [z_up]
theorem z_up_ne (σ : ZM) {a i x a' i' : Int} (h : a' ≠ a ∨ i' ≠ i) : z_up σ a i x a' i' = σ a' i' := by
  unfold z_up
  rw [if_neg]
  rintro ⟨h1, h2⟩
  rcases h with h | h
  · exact h h1
  · exact h h2
theorem z_l_len (a : Int) : (z_l a).2 ≤ 4096 := by
  unfold z_l
  have h : ∀ q ∈ z_lay, q.2 ≤ 4096 := by decide +kernel
  rw [List.getD_eq_getElem?_getD]
  cases hq : z_lay[a.toNat]? with
  | none => simp
  | some q => exact h q (List.mem_of_getElem? hq)
theorem z_l_pos {a : Int} (h : (z_l a).1 ≠ 99) : 0 < a ∧ a.toNat < z_lay.length := by
  unfold z_l at h
  rw [List.getD_eq_getElem?_getD] at h
  have h1 : a.toNat ≠ 0 := by
    intro q
    rw [q] at h
    exact h (by decide +kernel)
  refine ⟨by omega, ?_⟩
  cases hq : z_lay[a.toNat]? with
  | none => rw [hq] at h; exact absurd rfl h
  | some q => exact (List.getElem?_eq_some_iff.mp hq).1
theorem z_ws_get {B : Nat} {cA : Nat → ClassId} {σ : ZM} {n k : Nat} (h : k < n) : (z_ws B cA σ n)[k]? = some (B + (k + 1), z_cell B cA σ (k + 1)) := by
  unfold z_ws
  rw [List.getElem?_map, List.getElem?_range h]
  rfl
theorem z_ws_at {B : Nat} {cA : Nat → ClassId} {σ : ZM} {n : Nat} {a : Int} (h0 : 0 < a) (h : a.toNat ≤ n) : (z_ws B cA σ n)[a.toNat - 1]? = some (B + a.toNat, z_cell B cA σ a.toNat) := by
  rw [z_ws_get (by omega), show a.toNat - 1 + 1 = a.toNat by omega]
theorem z_ws_len {B : Nat} {cA : Nat → ClassId} {σ : ZM} {n : Nat} : (z_ws B cA σ n).length = n := by simp [z_ws]
theorem z_ws_D (B : Nat) (cA : Nat → ClassId) (σ : ZM) (n : Nat) : va_D (z_A B) (z_ws B cA σ n) := by
  have key : ∀ (k : Nat) (q : Nat × va_E), (z_ws B cA σ n)[k]? = some q → q.1 = B + (k + 1) := by
    intro k q hk
    have hl : k < n := by have := (List.getElem?_eq_some_iff.mp hk).1; rwa [z_ws_len] at this
    rw [z_ws_get hl] at hk
    cases hk
    rfl
  refine ⟨fun i j p q hp hq h => ?_, fun k q hk => ?_⟩
  · have := key i p hp
    have := key j q hq
    omega
  · show B < q.1
    have := key k q hk
    omega
theorem z_cell_far {B : Nat} {cA : Nat → ClassId} {σ τ : ZM} {a : Nat} (h : ∀ i : Int, σ a i = τ a i) : z_cell B cA σ a = z_cell B cA τ a := by
  unfold z_cell
  simp only [h]
theorem z_ws_set {B : Nat} {cA : Nat → ClassId} {σ : ZM} {n : Nat} {a i x : Int} {e : va_E} (h0 : 0 < a) (h : a.toNat ≤ n) (he : z_cell B cA (z_up σ a i x) a.toNat = e) : (z_ws B cA σ n).set (a.toNat - 1) (B + a.toNat, e) = z_ws B cA (z_up σ a i x) n := by
  apply List.ext_getElem?
  intro j
  by_cases hj : j = a.toNat - 1
  · subst hj
    rw [List.getElem?_set_self (by rw [z_ws_len]; omega), z_ws_at h0 h, he]
  · rw [List.getElem?_set_ne (fun q => hj q.symm)]
    by_cases hn : j < n
    · rw [z_ws_get hn, z_ws_get hn]
      congr 2
      apply z_cell_far
      intro k
      rw [z_up_ne]
      exact Or.inl (by omega)
    · rw [List.getElem?_eq_none (by rw [z_ws_len]; omega), List.getElem?_eq_none (by rw [z_ws_len]; omega)]
theorem z_cell_obj {B : Nat} {cA : Nat → ClassId} {σ : ZM} {a : Nat} {ci N : Nat} (h : z_l a = (ci, N)) (hc : ci < 20) : z_cell B cA σ a = .inr (ci, (List.range N).map (fun i => z_rv B 0 (z_ft ci i, σ a i))) := by
  unfold z_cell
  rw [h]
  dsimp only
  split <;> first | omega | rfl
theorem z_cell_i {B : Nat} {cA : Nat → ClassId} {σ : ZM} {a N : Nat} (h : z_l a = (20, N)) : z_cell B cA σ a = .inl (cA 0, N, .inl (fun j => iz (σ a j))) := by
  unfold z_cell
  rw [h]
  rfl
theorem z_cell_l {B : Nat} {cA : Nat → ClassId} {σ : ZM} {a N : Nat} (h : z_l a = (21, N)) : z_cell B cA σ a = .inl (cA 1, N, .inr (.inl (fun j => lz (σ a j)))) := by
  unfold z_cell
  rw [h]
  rfl
theorem z_cell_z {B : Nat} {cA : Nat → ClassId} {σ : ZM} {a N : Nat} (h : z_l a = (22, N)) : z_cell B cA σ a = .inl (cA 2, N, .inl (fun j => iz (σ a j))) := by
  unfold z_cell
  rw [h]
  rfl
theorem z_cell_r {B : Nat} {cA : Nat → ClassId} {σ : ZM} {a N : Nat} (h : z_l a = (23, N)) : z_cell B cA σ a = .inl (cA 3, N, .inr (.inr (.inr (.inr (fun j => z_ref B (σ a j)))))) := by
  unfold z_cell
  rw [h]
  rfl
theorem z_toNat {a : Int} (h : 0 < a) : ((a.toNat : Nat) : Int) = a := by omega
theorem z_refp {B : Nat} {a : Int} (h : 0 < a) : z_ref B a = some (B + a.toNat) := by
  unfold z_ref
  rw [if_neg (by omega)]
theorem z_ft_lt (ci k : Nat) : z_ft ci k < 3 := by
  unfold z_ft
  have hall : ∀ l ∈ z_ftl, ∀ x ∈ l, x < 3 := by decide +kernel
  rw [List.getD_eq_getElem?_getD, List.getD_eq_getElem?_getD]
  cases hl : z_ftl[ci]? with
  | none => simp
  | some l =>
    simp only [Option.getD_some]
    cases hx : l[k]? with
    | none => simp
    | some x => exact hall l (List.mem_of_getElem? hl) x (List.mem_of_getElem? hx)
theorem z_rv_b {B b b' t : Nat} {x : Int} (h : t < 3) : z_rv B b (t, x) = z_rv B b' (t, x) := by
  match t, h with
  | 0, _ => rfl
  | 1, _ => rfl
  | 2, _ => rfl
section ZHeap
variable {X : ZS} {ρ : ZR} {M : ZT} {pc : Nat} {L st : List ZV} {n : Nat} {σ : ZM} {Q : ZV → ZM → Prop}
/-- the link of a field: the class's own, or a nest mate's -/
def z_fl (M : ZT) (idx : Nat) (T : u_T) (k : Nat) : Prop := Cond.fieldLink M.1.cls idx (T k).1 (T k).2.1 (T k).2.2.1 ∈ z_us ∨ ∃ host, Cond.fieldLinkNest M.1.cls idx (T k).1 (T k).2.1 (T k).2.2.1 host ∈ z_us
theorem Z_get {C : String} {T : u_T} {N ci idx t : Nat} {a : Int} (k : Nat) (hd : decode M.2.1 pc = .ok (.getfield idx, 3)) (hl : z_l a = (ci, N)) (han : a.toNat ≤ n) (hc : vwCl[ci]? = some (C, T, N)) (hci : ci < 20) (hin : ∀ w ∈ u_ws C T N, w ∈ z_us) (hk : k < N) (hw : z_fl M idx T k) (ht : z_ft ci k = t) (kk : Z X ρ M (pc + 3) L ((t, σ a k) :: st) n σ Q) : Z X ρ M pc L ((2, a) :: st) n σ Q := by
  subst ht
  have hp : 0 < a := (z_l_pos (by rw [hl]; show ci ≠ 99; omega)).1
  refine Z_pure (fun p l e R s m args below meth c B b D cA Qf H locs cells slots ls hF hD hL kk => ?_) kk
  have k2 := kk ls hL
  simp only [List.map_cons, z_rv2, z_refp hp] at k2 ⊢
  have he := z_ws_at (B := B) (cA := cA) (σ := σ) hp han
  rw [z_cell_obj (ci := ci) (N := N) (by rw [z_toNat hp]; exact hl) hci] at he
  have hv : ((List.range N).map (fun i => z_rv B 0 (z_ft ci i, σ (a.toNat : Int) (i : Int))))[k]? = some (z_rv B 0 (z_ft ci k, σ a k)) := by
    rw [List.getElem?_map, List.getElem?_range hk, z_toNat hp]
    rfl
  have hb : z_rv B b (z_ft ci k, σ a k) = z_rv B 0 (z_ft ci k, σ a k) := z_rv_b (z_ft_lt ci k)
  rw [hb] at k2
  rcases hw with hw | ⟨host, hw⟩
  · exact va_get hF.1 hF.2.1 hF.2.2.2.2.2.2.2.1 hin hF.2.2.2.2.2.1 hF.2.2.2.2.2.2.2.2.1 hD.1 _ he hc k hk (hF.2.2.2.2.2.2.2.1 _ hw) (fun _ h => h) hv hd k2
  · exact va_getN hF.1 hF.2.1 hF.2.2.2.2.2.2.2.1 hin hF.2.2.2.2.2.1 hF.2.2.2.2.2.2.2.2.1 hD.1 _ he hc k hk (hF.2.2.2.2.2.2.2.1 _ hw) (fun _ h => h) hv hd k2
/-- what a put needs of the value: it is what a field of that type keeps -/
def z_nf (ty : FieldType) (v : ZV) : Prop := ∀ B b : Nat, narrow ty (z_rv B b v) = z_rv B b v ∧ fits ty (z_rv B b v) = true
theorem z_nf_i (x : Int) : z_nf .int (0, x) := fun B b => ⟨rfl, rfl⟩
theorem z_nf_l (x : Int) : z_nf .long (1, x) := fun B b => ⟨rfl, rfl⟩
theorem z_nf_z {x : Int} (h : x = 0 ∨ x = 1) : z_nf .boolean (0, x) := fun B b => by
  rcases h with rfl | rfl <;> exact ⟨rfl, rfl⟩
theorem z_nf_o (C : String) (x : Int) : z_nf (.object C) (2, x) := fun B b => by
  rw [z_rv2]
  cases z_ref B x <;> exact ⟨rfl, rfl⟩
theorem z_nf_a (t : FieldType) (x : Int) : z_nf (.array t) (2, x) := fun B b => by
  rw [z_rv2]
  cases z_ref B x <;> exact ⟨rfl, rfl⟩
def z_pl (M : ZT) (idx : Nat) (T : u_T) (k : Nat) : Prop := ((T k).2.2.2 = false ∧ z_fl M idx T k) ∨ ((T k).2.2.2 = true ∧ Cond.fieldLink M.1.cls idx (T k).1 (T k).2.1 (T k).2.2.1 ∈ z_us ∧ M.1.name = "<init>" ∧ (T k).1 = M.1.cls)
theorem z_dyn_set {ρ : ZR} {σ : ZM} {D : va_G} {B : Nat} {cA : Nat → ClassId} {R : Room} {s : State} {H H1 : Heap} {locs locs1 : List Loc} {cells slots : Nat} {a i x : Int} {e : va_E} (h : z_dyn ρ n σ D B cA R s H locs cells slots) (h0 : 0 < a) (han : a.toNat ≤ n) (he : z_cell B cA (z_up σ a i x) a.toNat = e) (hP : va_P D vwCl ((z_ws B cA σ n).set (a.toNat - 1) (B + a.toNat, e)) H1) (hS : va_S (z_A B) s.heap H1 locs1) : z_dyn ρ n (z_up σ a i x) D B cA R s H1 locs1 cells slots := by
  rw [z_ws_set h0 han he] at hP
  exact ⟨hP, h.2.1, hS, h.2.2.2⟩
theorem Z_put {C : String} {T : u_T} {N ci idx t : Nat} {a x : Int} {ty : FieldType} (ty0 : Nat → FieldType) (k : Nat) (hd : decode M.2.1 pc = .ok (.putfield idx, 3)) (hl : z_l a = (ci, N)) (han : a.toNat ≤ n) (hc : vwCl[ci]? = some (C, T, N)) (hci : ci < 20) (hin : ∀ w ∈ u_ws C T N, w ∈ z_us) (hk : k < N) (hw : z_pl M idx T k) (ht : z_ft ci k = t) (hty : ∀ k, k < N → parseFieldDescriptor (T k).2.2.1 = some (ty0 k)) (hnm : ∀ a, a < N → ∀ b, b < N → a ≠ b → (T a).2.1 ≠ (T b).2.1) (hty1 : ty0 k = ty) (hnf : z_nf ty (t, x)) (kk : Z X ρ M (pc + 3) L st n (z_up σ a k x) Q) : Z X ρ M pc L ((t, x) :: (2, a) :: st) n σ Q := by
  subst ht
  subst hty1
  have hp : 0 < a := (z_l_pos (by rw [hl]; show ci ≠ 99; omega)).1
  intro p l e R s m args below meth c B b D cA Qf hF hE H locs cells slots ls hD hL
  simp only [List.map_cons, z_rv2, z_refp hp]
  have he := z_ws_at (B := B) (cA := cA) (σ := σ) hp han
  rw [z_cell_obj (ci := ci) (N := N) (by rw [z_toNat hp]; exact hl) hci] at he
  have hb : z_rv B b (z_ft ci k, x) = z_rv B 0 (z_ft ci k, x) := z_rv_b (z_ft_lt ci k)
  have hfin : ∀ (H1 : Heap) (locs1 : List Loc), va_P D vwCl ((z_ws B cA σ n).set (a.toNat - 1) (B + a.toNat, .inr (ci, ((List.range N).map (fun i => z_rv B 0 (z_ft ci i, σ (a.toNat : Int) (i : Int)))).set k (z_rv B b (z_ft ci k, x))))) H1 → va_S (z_A B) s.heap H1 locs1 → W p l e R s m args below meth c H1 locs1 cells slots Qf (F0 m (pc + 3) ls (st.map (z_rv B b))) := by
    intro H1 locs1 hP1 hS1
    refine kk p l e R s m args below meth c B b D cA Qf hF hE H1 locs1 cells slots ls (z_dyn_set hD hp han ?_ hP1 hS1) hL
    rw [z_cell_obj (ci := ci) (N := N) (by rw [z_toNat hp]; exact hl) hci]
    congr 2
    apply List.ext_getElem?
    intro j
    rw [hb]
    by_cases hj : j = k
    · subst hj
      rw [List.getElem?_set_self (by simpa using hk), List.getElem?_map, List.getElem?_range hk, z_toNat hp]
      simp [z_up_same]
    · rw [List.getElem?_set_ne (fun q => hj q.symm), List.getElem?_map, List.getElem?_map, z_toNat hp]
      by_cases hjn : j < N
      · rw [List.getElem?_range hjn]
        simp only [Option.map_some]
        rw [z_up_ne]
        exact Or.inr (by omega)
      · rw [List.getElem?_eq_none (by simpa using hjn)]
        rfl
  have hlen : k < ((List.range N).map (fun i => z_rv B 0 (z_ft ci i, σ (a.toNat : Int) (i : Int)))).length := by simpa using hk
  rcases hw with ⟨hf, hw | ⟨host, hw⟩⟩ | ⟨hf, hw, hi, ho⟩
  · exact va_put hF.1 hF.2.1 hF.2.2.2.2.2.2.2.1 hin ty0 hty hnm hF.2.2.2.2.2.1 hF.2.2.2.2.2.2.2.2.1 hD.1 (z_ws_D B cA σ n) hD.2.2.1 _ he hc k hk (hF.2.2.2.2.2.2.2.1 _ hw) (fun _ h => h) hf (hty k hk) (hnf B b).1 (hnf B b).2 hlen hd (fun H1 locs1 hP1 _ hS1 => hfin H1 locs1 hP1 hS1)
  · exact va_putN hF.1 hF.2.1 hF.2.2.2.2.2.2.2.1 hin ty0 hty hnm hF.2.2.2.2.2.1 hF.2.2.2.2.2.2.2.2.1 hD.1 (z_ws_D B cA σ n) hD.2.2.1 _ he hc k hk (hF.2.2.2.2.2.2.2.1 _ hw) (fun _ h => h) hf (hty k hk) (hnf B b).1 (hnf B b).2 hlen hd (fun H1 locs1 hP1 _ hS1 => hfin H1 locs1 hP1 hS1)
  · exact va_putF hF.1 hF.2.1 hF.2.2.2.2.2.2.2.1 hin ty0 hty hnm hF.2.2.2.2.2.1 hF.2.2.2.2.2.2.2.2.1 hD.1 (z_ws_D B cA σ n) hD.2.2.1 _ he hc k hk (hF.2.2.2.2.2.2.2.1 _ hw) (fun _ h => h) hf (hF.2.2.2.2.2.2.1.trans hi) ho (hty k hk) (hnf B b).1 (hnf B b).2 hlen hd (fun H1 locs1 hP1 _ hS1 => hfin H1 locs1 hP1 hS1)
theorem z_idx {i : Int} {a : Int} {k N : Nat} (hl : z_l a = (k, N)) (h0 : 0 ≤ i) (h1 : i < N) : r32 i := by
  have := z_l_len a
  rw [hl] at this
  dsimp only at this
  constructor <;> omega
theorem Z_iald {a i : Int} {N : Nat} (hd : decode M.2.1 pc = .ok (.iaload, 1)) (hl : z_l a = (20, N)) (han : a.toNat ≤ n) (h0 : 0 ≤ i) (h1 : i < N) (kk : Z X ρ M (pc + 1) L ((0, σ a i) :: st) n σ Q) : Z X ρ M pc L ((0, i) :: (2, a) :: st) n σ Q := by
  have hp : 0 < a := (z_l_pos (by rw [hl]; simp)).1
  have hr := z_idx hl h0 h1
  refine Z_pure (fun p l e R s m args below meth c B b D cA Qf H locs cells slots ls hF hD hL kk => ?_) kk
  have k2 := kk ls hL
  simp only [List.map_cons, z_rv2, z_rv0, z_refp hp] at k2 ⊢
  have he := z_ws_at (B := B) (cA := cA) (σ := σ) hp han
  rw [z_cell_i (by rw [z_toNat hp]; exact hl)] at he
  refine va_iald hF.1 hF.2.1 hF.2.2.2.2.2.2.2.2.1 hD.1 _ 0 he rfl (iz_in h0 h1 hr) hd ?_
  rw [iz_clamp hr, z_toNat hp, Int.toNat_of_nonneg h0]
  exact k2
theorem Z_lald {a i : Int} {N : Nat} (hd : decode M.2.1 pc = .ok (.laload, 1)) (hl : z_l a = (21, N)) (han : a.toNat ≤ n) (h0 : 0 ≤ i) (h1 : i < N) (kk : Z X ρ M (pc + 1) L ((1, σ a i) :: st) n σ Q) : Z X ρ M pc L ((0, i) :: (2, a) :: st) n σ Q := by
  have hp : 0 < a := (z_l_pos (by rw [hl]; simp)).1
  have hr := z_idx hl h0 h1
  refine Z_pure (fun p l e R s m args below meth c B b D cA Qf H locs cells slots ls hF hD hL kk => ?_) kk
  have k2 := kk ls hL
  simp only [List.map_cons, z_rv2, z_rv1, z_rv0, z_refp hp] at k2 ⊢
  have he := z_ws_at (B := B) (cA := cA) (σ := σ) hp han
  rw [z_cell_l (by rw [z_toNat hp]; exact hl)] at he
  refine va_lald hF.1 hF.2.1 hF.2.2.2.2.2.2.2.2.1 hD.1 _ 1 he rfl (iz_in h0 h1 hr) hd ?_
  rw [iz_clamp hr, z_toNat hp, Int.toNat_of_nonneg h0]
  exact k2
theorem Z_zald {a i : Int} {N : Nat} (hd : decode M.2.1 pc = .ok (.baload, 1)) (hl : z_l a = (22, N)) (han : a.toNat ≤ n) (h0 : 0 ≤ i) (h1 : i < N) (kk : Z X ρ M (pc + 1) L ((0, σ a i) :: st) n σ Q) : Z X ρ M pc L ((0, i) :: (2, a) :: st) n σ Q := by
  have hp : 0 < a := (z_l_pos (by rw [hl]; simp)).1
  have hr := z_idx hl h0 h1
  refine Z_pure (fun p l e R s m args below meth c B b D cA Qf H locs cells slots ls hF hD hL kk => ?_) kk
  have k2 := kk ls hL
  simp only [List.map_cons, z_rv2, z_rv0, z_refp hp] at k2 ⊢
  have he := z_ws_at (B := B) (cA := cA) (σ := σ) hp han
  rw [z_cell_z (by rw [z_toNat hp]; exact hl)] at he
  refine va_zald hF.1 hF.2.1 hF.2.2.2.2.2.2.2.2.1 hD.1 _ 2 he rfl (iz_in h0 h1 hr) hd ?_
  rw [iz_clamp hr, z_toNat hp, Int.toNat_of_nonneg h0]
  exact k2
theorem Z_aald {a i : Int} {N : Nat} (hd : decode M.2.1 pc = .ok (.aaload, 1)) (hl : z_l a = (23, N)) (han : a.toNat ≤ n) (h0 : 0 ≤ i) (h1 : i < N) (kk : Z X ρ M (pc + 1) L ((2, σ a i) :: st) n σ Q) : Z X ρ M pc L ((0, i) :: (2, a) :: st) n σ Q := by
  have hp : 0 < a := (z_l_pos (by rw [hl]; simp)).1
  have hr := z_idx hl h0 h1
  refine Z_pure (fun p l e R s m args below meth c B b D cA Qf H locs cells slots ls hF hD hL kk => ?_) kk
  have k2 := kk ls hL
  simp only [List.map_cons, z_rv2, z_rv0, z_refp hp] at k2 ⊢
  have he := z_ws_at (B := B) (cA := cA) (σ := σ) hp han
  rw [z_cell_r (by rw [z_toNat hp]; exact hl)] at he
  refine va_aldq hF.1 hF.2.1 hF.2.2.2.2.2.2.2.2.1 hD.1 _ 3 he rfl (iz_in h0 h1 hr) hd ?_
  rw [iz_clamp hr, z_toNat hp, Int.toNat_of_nonneg h0]
  exact k2
theorem Z_alen {a : Int} {k N : Nat} (hd : decode M.2.1 pc = .ok (.arraylength, 1)) (hl : z_l a = (k, N)) (hk : k = 20 ∨ k = 23) (han : a.toNat ≤ n) (kk : Z X ρ M (pc + 1) L ((0, (N : Int)) :: st) n σ Q) : Z X ρ M pc L ((2, a) :: st) n σ Q := by
  have hp : 0 < a := (z_l_pos (by rw [hl]; rcases hk with rfl | rfl <;> simp)).1
  refine Z_pure (fun p l e R s m args below meth c B b D cA Qf H locs cells slots ls hF hD hL kk => ?_) kk
  have k2 := kk ls hL
  simp only [List.map_cons, z_rv2, z_rv0, z_refp hp] at k2 ⊢
  have he := z_ws_at (B := B) (cA := cA) (σ := σ) hp han
  rcases hk with rfl | rfl
  · rw [z_cell_i (by rw [z_toNat hp]; exact hl)] at he
    exact va_alen hF.1 hF.2.1 hF.2.2.2.2.2.2.2.2.1 hD.1 _ 0 he rfl rfl hd k2
  · rw [z_cell_r (by rw [z_toNat hp]; exact hl)] at he
    exact va_alen hF.1 hF.2.1 hF.2.2.2.2.2.2.2.2.1 hD.1 _ 3 he rfl rfl hd k2
theorem Z_iast {a i x : Int} {N : Nat} (hd : decode M.2.1 pc = .ok (.iastore, 1)) (hl : z_l a = (20, N)) (han : a.toNat ≤ n) (h0 : 0 ≤ i) (h1 : i < N) (kk : Z X ρ M (pc + 1) L st n (z_up σ a i x) Q) : Z X ρ M pc L ((0, x) :: (0, i) :: (2, a) :: st) n σ Q := by
  have hp : 0 < a := (z_l_pos (by rw [hl]; simp)).1
  have hr := z_idx hl h0 h1
  intro p l e R s m args below meth c B b D cA Qf hF hE H locs cells slots ls hD hL
  simp only [List.map_cons, z_rv2, z_rv0, z_refp hp]
  have he := z_ws_at (B := B) (cA := cA) (σ := σ) hp han
  rw [z_cell_i (by rw [z_toNat hp]; exact hl)] at he
  refine va_iast hF.1 hF.2.1 hF.2.2.2.2.2.2.2.2.1 hD.1 (z_ws_D B cA σ n) hD.2.2.1 _ 0 he rfl (iz_in h0 h1 hr) hd (fun H1 locs1 hP1 _ hS1 => ?_)
  refine kk p l e R s m args below meth c B b D cA Qf hF hE H1 locs1 cells slots ls (z_dyn_set hD hp han ?_ hP1 hS1) hL
  rw [z_cell_i (by rw [z_toNat hp]; exact hl), iz_clamp hr, z_toNat hp]
  congr 4
  funext j
  unfold upd z_up
  by_cases hj : j = i.toNat
  · rw [if_pos hj, if_pos ⟨rfl, by omega⟩]
  · rw [if_neg hj, if_neg (fun q => hj (by omega))]
theorem Z_last {a i x : Int} {N : Nat} (hd : decode M.2.1 pc = .ok (.lastore, 1)) (hl : z_l a = (21, N)) (han : a.toNat ≤ n) (h0 : 0 ≤ i) (h1 : i < N) (kk : Z X ρ M (pc + 1) L st n (z_up σ a i x) Q) : Z X ρ M pc L ((1, x) :: (0, i) :: (2, a) :: st) n σ Q := by
  have hp : 0 < a := (z_l_pos (by rw [hl]; simp)).1
  have hr := z_idx hl h0 h1
  intro p l e R s m args below meth c B b D cA Qf hF hE H locs cells slots ls hD hL
  simp only [List.map_cons, z_rv2, z_rv0, z_rv1, z_refp hp]
  have he := z_ws_at (B := B) (cA := cA) (σ := σ) hp han
  rw [z_cell_l (by rw [z_toNat hp]; exact hl)] at he
  refine va_last hF.1 hF.2.1 hF.2.2.2.2.2.2.2.2.1 hD.1 (z_ws_D B cA σ n) hD.2.2.1 _ 1 he rfl (iz_in h0 h1 hr) hd (fun H1 locs1 hP1 _ hS1 => ?_)
  refine kk p l e R s m args below meth c B b D cA Qf hF hE H1 locs1 cells slots ls (z_dyn_set hD hp han ?_ hP1 hS1) hL
  rw [z_cell_l (by rw [z_toNat hp]; exact hl), iz_clamp hr, z_toNat hp]
  congr 5
  funext j
  unfold vp_updL z_up
  by_cases hj : j = i.toNat
  · rw [if_pos hj, if_pos ⟨rfl, by omega⟩]
  · rw [if_neg hj, if_neg (fun q => hj (by omega))]
theorem Z_zast {a i x : Int} {N : Nat} (hd : decode M.2.1 pc = .ok (.bastore, 1)) (hl : z_l a = (22, N)) (han : a.toNat ≤ n) (h0 : 0 ≤ i) (h1 : i < N) (hx : x = 0 ∨ x = 1) (kk : Z X ρ M (pc + 1) L st n (z_up σ a i x) Q) : Z X ρ M pc L ((0, x) :: (0, i) :: (2, a) :: st) n σ Q := by
  have hp : 0 < a := (z_l_pos (by rw [hl]; simp)).1
  have hr := z_idx hl h0 h1
  have hnar : vp_nar .boolean (iz x) = iz x := by rcases hx with rfl | rfl <;> rfl
  intro p l e R s m args below meth c B b D cA Qf hF hE H locs cells slots ls hD hL
  simp only [List.map_cons, z_rv2, z_rv0, z_refp hp]
  have he := z_ws_at (B := B) (cA := cA) (σ := σ) hp han
  rw [z_cell_z (by rw [z_toNat hp]; exact hl)] at he
  refine va_zast hF.1 hF.2.1 hF.2.2.2.2.2.2.2.2.1 hD.1 (z_ws_D B cA σ n) hD.2.2.1 _ 2 he rfl (iz_in h0 h1 hr) hd (fun H1 locs1 hP1 _ hS1 => ?_)
  rw [hnar] at hP1
  refine kk p l e R s m args below meth c B b D cA Qf hF hE H1 locs1 cells slots ls (z_dyn_set hD hp han ?_ hP1 hS1) hL
  rw [z_cell_z (by rw [z_toNat hp]; exact hl), iz_clamp hr, z_toNat hp]
  congr 4
  funext j
  unfold upd z_up
  by_cases hj : j = i.toNat
  · rw [if_pos hj, if_pos ⟨rfl, by omega⟩]
  · rw [if_neg hj, if_neg (fun q => hj (by omega))]
theorem Z_aast {a i v : Int} {N : Nat} (hd : decode M.2.1 pc = .ok (.aastore, 1)) (hl : z_l a = (23, N)) (han : a.toNat ≤ n) (h0 : 0 ≤ i) (h1 : i < N) (hv : z_l v = (9, 3)) (hvn : v.toNat ≤ n) (kk : Z X ρ M (pc + 1) L st n (z_up σ a i v) Q) : Z X ρ M pc L ((2, v) :: (0, i) :: (2, a) :: st) n σ Q := by
  have hp : 0 < a := (z_l_pos (by rw [hl]; simp)).1
  have hpv : 0 < v := (z_l_pos (by rw [hv]; simp)).1
  have hr := z_idx hl h0 h1
  intro p l e R s m args below meth c B b D cA Qf hF hE H locs cells slots ls hD hL
  simp only [List.map_cons, z_rv2, z_rv0, z_refp hp, z_refp hpv]
  have he := z_ws_at (B := B) (cA := cA) (σ := σ) hp han
  rw [z_cell_r (by rw [z_toNat hp]; exact hl)] at he
  have hev := z_ws_at (B := B) (cA := cA) (σ := σ) hpv hvn
  rw [z_cell_obj (ci := 9) (N := 3) (by rw [z_toNat hpv]; exact hv) (by decide)] at hev
  refine va_astq hF.1 hF.2.1 hF.2.2.2.2.2.2.2.2.1 hD.1 (z_ws_D B cA σ n) hD.2.2.1 _ 3 _ 9 (r := (RX9, TX9, 3)) he rfl hev rfl (iz_in h0 h1 hr) hd (fun H1 locs1 hP1 _ hS1 => ?_)
  refine kk p l e R s m args below meth c B b D cA Qf hF hE H1 locs1 cells slots ls (z_dyn_set hD hp han ?_ hP1 hS1) hL
  rw [z_cell_r (by rw [z_toNat hp]; exact hl), iz_clamp hr, z_toNat hp]
  congr 8
  funext j
  unfold va_up z_up
  by_cases hj : j = i.toNat
  · rw [if_pos hj, if_pos ⟨rfl, by omega⟩, z_refp hpv]
  · rw [if_neg hj, if_neg (fun q => hj (by omega))]
/-- the script -/
theorem Z_sld {x i : Int} (hd : decode M.2.1 pc = .ok (.iaload, 1)) (h0 : 0 ≤ i) (h1 : i < X.1) (hr : r32 i) (kk : Z X ρ M (pc + 1) L ((0, (X.2 i.toNat).toInt) :: st) n σ Q) : Z X ρ M pc L ((0, i) :: (3, x) :: st) n σ Q := by
  refine Z_pure (fun p l e R s m args below meth c B b D cA Qf H locs cells slots ls hF hD hL kk => ?_) kk
  have k2 := kk ls hL
  simp only [List.map_cons, z_rv3, z_rv0] at k2 ⊢
  have hb := hF.2.2.2.2.2.2.2.2.2.2.2.1
  have hB := hF.2.2.2.2.2.2.2.2.2.1
  refine va_sld hF.1 hF.2.1 hF.2.2.2.2.2.2.2.2.2.2.1 (Nat.lt_of_le_of_lt hb hB) (A := z_A B) (Nat.not_lt.mpr hb) hD.2.2.1 (iz_in h0 h1 hr) hd ?_
  rw [iz_clamp hr]
  rw [iz_of] at k2
  exact k2
theorem Z_slen {x : Int} (hd : decode M.2.1 pc = .ok (.arraylength, 1)) (kk : Z X ρ M (pc + 1) L ((0, (X.1 : Int)) :: st) n σ Q) : Z X ρ M pc L ((3, x) :: st) n σ Q := by
  refine Z_pure (fun p l e R s m args below meth c B b D cA Qf H locs cells slots ls hF hD hL kk => ?_) kk
  have k2 := kk ls hL
  simp only [List.map_cons, z_rv3, z_rv0] at k2 ⊢
  have hb := hF.2.2.2.2.2.2.2.2.2.2.2.1
  have hB := hF.2.2.2.2.2.2.2.2.2.1
  exact va_slen hF.1 hF.2.1 hF.2.2.2.2.2.2.2.2.2.2.1 (Nat.lt_of_le_of_lt hb hB) (A := z_A B) (Nat.not_lt.mpr hb) hD.2.2.1 hd k2
end ZHeap
