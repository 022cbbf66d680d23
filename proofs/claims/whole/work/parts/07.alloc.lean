theorem z_ss_succ (n : Nat) : z_ss (n + 1) = z_ss n + (z_l ((n + 1 : Nat) : Int)).2 := by
  unfold z_ss z_l
  rw [Int.toNat_natCast, List.getD_eq_getElem?_getD, List.take_add_one (i := n + 1), List.map_append, List.sum_append]
  congr 1
  cases z_lay[n + 1]? with
  | none => rfl
  | some q => simp
theorem z_ss_mono {m n : Nat} (h : m ≤ n) : z_ss m ≤ z_ss n := by
  induction n with
  | zero => rw [show m = 0 by omega]; exact Nat.le_refl _
  | succ n ih =>
    rcases Nat.lt_or_ge n m with q | q
    · rw [show m = n + 1 by omega]; exact Nat.le_refl _
    · rw [z_ss_succ]; exact Nat.le_trans (ih q) (Nat.le_add_right _ _)
theorem z_ws_succ (B : Nat) (cA : Nat → ClassId) (σ : ZM) (n : Nat) : z_ws B cA (z_new σ ((n + 1 : Nat) : Int)) (n + 1) = z_ws B cA σ n ++ [(B + (n + 1), z_cell B cA (z_new σ ((n + 1 : Nat) : Int)) (n + 1))] := by
  apply List.ext_getElem?
  intro j
  rcases Nat.lt_trichotomy j n with h | h | h
  · rw [z_ws_get (by omega), List.getElem?_append_left (by rw [z_ws_len]; exact h), z_ws_get h]
    congr 2
    apply z_cell_far
    intro i
    unfold z_new
    rw [if_neg (by omega)]
  · subst h
    rw [z_ws_get (by omega), List.getElem?_append_right (by rw [z_ws_len]; exact Nat.le_refl _), z_ws_len, Nat.sub_self]
    rfl
  · rw [List.getElem?_eq_none (by rw [z_ws_len]; omega), List.getElem?_eq_none (by rw [List.length_append, z_ws_len]; simp; omega)]
section ZAlloc
variable {X : ZS} {ρ : ZR} {M : ZT} {pc : Nat} {L st : List ZV} {n : Nat} {σ : ZM} {Q : ZV → ZM → Prop}
theorem z_size {p : Program} {l : Launch} {e : Env} {R : Room} {s : State} {m : MethodId} {args : Array Value} {below : List Frame} {meth : Method} {c : Code} {B b : Nat} {D : va_G} {cA : Nat → ClassId} {H : Heap} {locs : List Loc} {cells slots : Nat} {T : State} (hF : z_fix X ρ M p R s m args meth c B b D cA) (hD : z_dyn ρ n σ D B cA R s H locs cells slots) (hT : T.heap = H) (hX : Stand p l e R s m args below meth c T locs cells slots) : H.size = B + n + 1 := by
  have h1 : T.heap.size ≤ s.heap.size + cells := hX.same.2.2.1
  rw [hT] at h1
  have h2 := hD.2.1
  have h3 : B < s.heap.size := hF.2.2.2.2.2.2.2.2.2.1
  have h4 := hD.2.2.1.1
  rcases Nat.eq_zero_or_pos n with h | h
  · omega
  · have h5 := (hD.1 (n - 1) _ (z_ws_get (by omega))).lt
    dsimp only at h5
    omega
theorem z_sized {p : Program} {l : Launch} {e : Env} {R : Room} {s : State} {m : MethodId} {args : Array Value} {below : List Frame} {meth : Method} {c : Code} {B b : Nat} {D : va_G} {cA : Nat → ClassId} {H : Heap} {locs : List Loc} {cells slots : Nat} {Qf : State → Prop} {g : JFrame} (hF : z_fix X ρ M p R s m args meth c B b D cA) (hD : z_dyn ρ n σ D B cA R s H locs cells slots) (k : H.size = B + n + 1 → W p l e R s m args below meth c H locs cells slots Qf g) : W p l e R s m args below meth c H locs cells slots Qf g :=
  fun T hT hX => k (z_size hF hD hT hX) T hT hX
theorem z_push {R : Room} {s : State} {B : Nat} {D : va_G} {cA : Nat → ClassId} {H H1 : Heap} {locs : List Loc} {cells slots N : Nat} (hB : B < s.heap.size) (hD : z_dyn ρ n σ D B cA R s H locs cells slots) (hz : H.size = B + n + 1) (hz1 : H1.size = H.size + 1) (ho : ∀ q : Nat, q < H.size → H1[q]? = H[q]?) (hN : (z_l ((n + 1 : Nat) : Int)).2 = N) (hn : n + 1 ≤ ρ.2.2) (he : va_at D vwCl (B + (n + 1), z_cell B cA (z_new σ ((n + 1 : Nat) : Int)) (n + 1)) H1) : z_dyn ρ (n + 1) (z_new σ ((n + 1 : Nat) : Int)) D B cA R s H1 locs (cells + 1) (slots + N) := by
  obtain ⟨hP, hc, hS, hn1, hR1, hR2⟩ := hD
  refine ⟨?_, by omega, ⟨Nat.le_trans hS.1 (by omega), fun x h1 h2 => (ho x (Nat.lt_of_lt_of_le h1 hS.1)).trans (hS.2.1 x h1 h2), hS.2.2⟩, hn, by omega, ?_⟩
  · rw [z_ws_succ]
    refine (hP.kept (fun k x hx => ho x.1 ((hP k x hx).lt))).app (fun k x hx => ?_)
    have hk : k < 1 := (List.getElem?_eq_some_iff.mp hx).1
    rw [show k = 0 by omega] at hx
    cases hx
    exact he
  · have h1 := z_ss_succ n
    have h2 := z_ss_mono hn
    rw [hN] at h1
    omega
theorem z_new_0 (σ : ZM) (a i : Int) : z_new σ a a i = 0 := by simp [z_new]
theorem z_slots {R : Room} {s : State} {B : Nat} {D : va_G} {cA : Nat → ClassId} {H : Heap} {locs : List Loc} {cells slots N : Nat} (hD : z_dyn ρ n σ D B cA R s H locs cells slots) (hn : n + 1 ≤ ρ.2.2) (hN : (z_l ((n + 1 : Nat) : Int)).2 = N) : cells + 1 ≤ R.cells ∧ slots + N ≤ R.slots := by
  obtain ⟨-, -, -, -, hR1, hR2⟩ := hD
  have h1 := z_ss_succ n
  have h2 := z_ss_mono hn
  rw [hN] at h1
  omega
set_option maxHeartbeats 100000 in
theorem Z_newI {x : Int} {N : Nat} (hd : decode M.2.1 pc = .ok (.newarray .int, 2)) (hw : Cond.arrayClass .int ∈ z_us) (hl : z_l ((n + 1 : Nat) : Int) = (20, N)) (hx : x = N) (hn : n + 1 ≤ ρ.2.2) (k : Z X ρ M (pc + 2) L ((2, ((n + 1 : Nat) : Int)) :: st) (n + 1) (z_new σ ((n + 1 : Nat) : Int)) Q) : Z X ρ M pc L ((0, x) :: st) n σ Q := by
  subst hx
  have hN := z_l_len ((n + 1 : Nat) : Int)
  rw [hl] at hN
  dsimp only at hN
  intro p l e R s m args below meth c B b D cA Qf hF hE H locs cells slots ls hD hL
  refine z_sized hF hD (fun hz => ?_)
  have hr : r32 (N : Int) := by constructor <;> omega
  have hneg : ¬ iz (N : Int) < 0 := by
    rw [show (0 : Int32) = iz 0 from rfl, iz_lt hr r32_0]
    omega
  have hS := z_slots hD hn (N := N) (by rw [hl])
  refine va_newaK (atype := .int) hF.1 hF.2.1 (hF.2.2.2.2.2.2.2.1 _ hw) rfl hd rfl hneg (by rw [iz_clamp hr]; exact Int.toNat_natCast N) (by show N * 4 ≤ 536870912; omega) hS.1 hS.2 hz (fun H1 cI e1 e2 e3 e4 e5 => ?_)
  have hcI : cI = cA 0 := Option.some.inj (e5.symm.trans (hF.2.2.2.2.2.2.2.2.1.2 0 (cA 0, .int) rfl).2)
  subst hcI
  have k2 := k p l e R s m args below meth c B b D cA Qf hF hE H1 locs (cells + 1) (slots + N) ls (z_push hF.2.2.2.2.2.2.2.2.2.1 hD hz (by omega) (fun q hq => e3 q (by omega)) (by rw [hl]) hn ?_) hL
  · rw [List.map_cons, z_rv2, z_refp (by omega), Int.toNat_natCast] at k2
    exact k2
  · rw [z_cell_i hl]
    show H1[B + (n + 1)]? = some (vp_cell _ _)
    rw [vp_cell_i]
    simp only [z_new_0]
    exact e1
set_option maxHeartbeats 100000 in
theorem Z_newJ {x : Int} {N : Nat} (hd : decode M.2.1 pc = .ok (.newarray .long, 2)) (hw : Cond.arrayClass .long ∈ z_us) (hl : z_l ((n + 1 : Nat) : Int) = (21, N)) (hx : x = N) (hn : n + 1 ≤ ρ.2.2) (k : Z X ρ M (pc + 2) L ((2, ((n + 1 : Nat) : Int)) :: st) (n + 1) (z_new σ ((n + 1 : Nat) : Int)) Q) : Z X ρ M pc L ((0, x) :: st) n σ Q := by
  subst hx
  have hN := z_l_len ((n + 1 : Nat) : Int)
  rw [hl] at hN
  dsimp only at hN
  intro p l e R s m args below meth c B b D cA Qf hF hE H locs cells slots ls hD hL
  refine z_sized hF hD (fun hz => ?_)
  have hr : r32 (N : Int) := by constructor <;> omega
  have hneg : ¬ iz (N : Int) < 0 := by
    rw [show (0 : Int32) = iz 0 from rfl, iz_lt hr r32_0]
    omega
  have hS := z_slots hD hn (N := N) (by rw [hl])
  refine va_newaK (atype := .long) hF.1 hF.2.1 (hF.2.2.2.2.2.2.2.1 _ hw) rfl hd rfl hneg (by rw [iz_clamp hr]; exact Int.toNat_natCast N) (by show N * 8 ≤ 536870912; omega) hS.1 hS.2 hz (fun H1 cI e1 e2 e3 e4 e5 => ?_)
  have hcI : cI = cA 1 := Option.some.inj (e5.symm.trans (hF.2.2.2.2.2.2.2.2.1.2 1 (cA 1, .long) rfl).2)
  subst hcI
  have k2 := k p l e R s m args below meth c B b D cA Qf hF hE H1 locs (cells + 1) (slots + N) ls (z_push hF.2.2.2.2.2.2.2.2.2.1 hD hz (by omega) (fun q hq => e3 q (by omega)) (by rw [hl]) hn ?_) hL
  · rw [List.map_cons, z_rv2, z_refp (by omega), Int.toNat_natCast] at k2
    exact k2
  · rw [z_cell_l hl]
    show H1[B + (n + 1)]? = some (vp_cell _ _)
    rw [vp_cell_l]
    simp only [z_new_0]
    exact e1
set_option maxHeartbeats 100000 in
theorem Z_newZ {x : Int} {N : Nat} (hd : decode M.2.1 pc = .ok (.newarray .boolean, 2)) (hw : Cond.arrayClass .boolean ∈ z_us) (hl : z_l ((n + 1 : Nat) : Int) = (22, N)) (hx : x = N) (hn : n + 1 ≤ ρ.2.2) (k : Z X ρ M (pc + 2) L ((2, ((n + 1 : Nat) : Int)) :: st) (n + 1) (z_new σ ((n + 1 : Nat) : Int)) Q) : Z X ρ M pc L ((0, x) :: st) n σ Q := by
  subst hx
  have hN := z_l_len ((n + 1 : Nat) : Int)
  rw [hl] at hN
  dsimp only at hN
  intro p l e R s m args below meth c B b D cA Qf hF hE H locs cells slots ls hD hL
  refine z_sized hF hD (fun hz => ?_)
  have hr : r32 (N : Int) := by constructor <;> omega
  have hneg : ¬ iz (N : Int) < 0 := by
    rw [show (0 : Int32) = iz 0 from rfl, iz_lt hr r32_0]
    omega
  have hS := z_slots hD hn (N := N) (by rw [hl])
  refine va_newaK (atype := .boolean) hF.1 hF.2.1 (hF.2.2.2.2.2.2.2.1 _ hw) rfl hd rfl hneg (by rw [iz_clamp hr]; exact Int.toNat_natCast N) (by show N * 1 ≤ 536870912; omega) hS.1 hS.2 hz (fun H1 cI e1 e2 e3 e4 e5 => ?_)
  have hcI : cI = cA 2 := Option.some.inj (e5.symm.trans (hF.2.2.2.2.2.2.2.2.1.2 2 (cA 2, .boolean) rfl).2)
  subst hcI
  have k2 := k p l e R s m args below meth c B b D cA Qf hF hE H1 locs (cells + 1) (slots + N) ls (z_push hF.2.2.2.2.2.2.2.2.2.1 hD hz (by omega) (fun q hq => e3 q (by omega)) (by rw [hl]) hn ?_) hL
  · rw [List.map_cons, z_rv2, z_refp (by omega), Int.toNat_natCast] at k2
    exact k2
  · rw [z_cell_z hl]
    show H1[B + (n + 1)]? = some (vp_cell _ _)
    rw [vp_cell_i]
    simp only [z_new_0]
    exact e1
set_option maxHeartbeats 100000 in
theorem Z_newR {x : Int} {N idx : Nat} (hd : decode M.2.1 pc = .ok (.anewarray idx, 3)) (hw : Cond.arrayOver (.object RX9) ∈ z_us) (hw2 : Cond.classLink M.1.cls idx RX9 ∈ z_us) (hl : z_l ((n + 1 : Nat) : Int) = (23, N)) (hx : x = N) (hn : n + 1 ≤ ρ.2.2) (k : Z X ρ M (pc + 3) L ((2, ((n + 1 : Nat) : Int)) :: st) (n + 1) (z_new σ ((n + 1 : Nat) : Int)) Q) : Z X ρ M pc L ((0, x) :: st) n σ Q := by
  subst hx
  have hN := z_l_len ((n + 1 : Nat) : Int)
  rw [hl] at hN
  dsimp only at hN
  intro p l e R s m args below meth c B b D cA Qf hF hE H locs cells slots ls hD hL
  refine z_sized hF hD (fun hz => ?_)
  have hr : r32 (N : Int) := by constructor <;> omega
  have hneg : ¬ iz (N : Int) < 0 := by
    rw [show (0 : Int32) = iz 0 from rfl, iz_lt hr r32_0]
    omega
  have hS := z_slots hD hn (N := N) (by rw [hl])
  have hcl : (iz (N : Int)).toNatClampNeg = N := by rw [iz_clamp hr]; exact Int.toNat_natCast N
  refine W.anew hF.1 hF.2.1 hF.2.2.2.2.2.1 (hF.2.2.2.2.2.2.2.1 _ hw2) (hF.2.2.2.2.2.2.2.1 _ hw) rfl hd rfl hneg (by rw [hcl]; omega) hS.1 (by rw [hcl]; exact hS.2) (fun cI kA comp f1 f2 f3 f4 => ?_)
  rw [hcl]
  have hcI : cI = cA 3 := by
    obtain ⟨-, kB, comp', g1, g2, g3, g4⟩ := hF.2.2.2.2.2.2.2.2.1.2 3 (cA 3, .object RX9) rfl
    exact Option.some.inj (f1.symm.trans g4)
  subst hcI
  generalize hH1 : H.push ({ cls := cA 3, slots := Array.replicate N .null, vm := .none } : Cell) = H1
  have z1 : H1.size = H.size + 1 := by rw [← hH1, Array.size_push]
  have e1 : H1[H.size]? = some (arrV (cA 3) N (fun _ => .null)) := by rw [← hH1, Array.getElem?_push_size, ← arrV_new]
  have o1 : ∀ q : Nat, q < H.size → H1[q]? = H[q]? := fun q hq => by rw [← hH1, Array.getElem?_push, if_neg (Nat.ne_of_lt hq)]
  have k2 := k p l e R s m args below meth c B b D cA Qf hF hE H1 locs (cells + 1) (slots + N) ls (z_push hF.2.2.2.2.2.2.2.2.2.1 hD hz z1 o1 (by rw [hl]) hn ?_) hL
  · rw [List.map_cons, z_rv2, z_refp (by omega), Int.toNat_natCast] at k2
    rw [hz]
    exact k2
  · rw [z_cell_r hl]
    show H1[B + (n + 1)]? = some (vp_cell _ _)
    rw [vp_cell_q, show B + (n + 1) = H.size by omega, e1]
    simp only [z_new_0]
    rfl
set_option maxHeartbeats 100000 in
theorem Z_newO {C : String} {T : u_T} {N ci idx : Nat} (ty : Nat → FieldType) (hd : decode M.2.1 pc = .ok (.new idx, 3)) (hc : vwCl[ci]? = some (C, T, N)) (hci : ci < 20) (hin : ∀ w ∈ u_ws C T N, w ∈ z_us) (hty : ∀ k, k < N → parseFieldDescriptor (T k).2.2.1 = some (ty k)) (hdef : ∀ i, i < N → ∀ B : Nat, defaultValue (ty i) = z_rv B 0 (z_ft ci i, 0)) (hw1 : Cond.classLink M.1.cls idx C ∈ z_us) (hw2 : Cond.instantiable C N ∈ z_us) (hw3 : Cond.initialized C ∈ z_us) (hl : z_l ((n + 1 : Nat) : Int) = (ci, N)) (hn : n + 1 ≤ ρ.2.2) (k : Z X ρ M (pc + 3) L ((2, ((n + 1 : Nat) : Int)) :: st) (n + 1) (z_new σ ((n + 1 : Nat) : Int)) Q) : Z X ρ M pc L st n σ Q := by
  intro p l e R s m args below meth c B b D cA Qf hF hE H locs cells slots ls hD hL
  refine z_sized hF hD (fun hz => ?_)
  have hS := z_slots hD hn (N := N) (by rw [hl])
  have hKn := hF.2.2.2.2.2.2.2.2.1.1 ci _ hc
  have hts := hF.2.2.2.2.2.2.2.1
  refine W.newcK hF.1 hF.2.1 hF.2.2.2.2.2.1 (hts _ hw1) (hts _ hw2) (hts _ hw3) rfl hd hS.1 hS.2 hKn.2.1 hz (fun H1 kC hkC e1 z1 o1 => ?_)
  have k2 := k p l e R s m args below meth c B b D cA Qf hF hE H1 locs (cells + 1) (slots + N) ls (z_push hF.2.2.2.2.2.2.2.2.2.1 hD hz (by omega) (fun q hq => o1 q (by omega)) (by rw [hl]) hn ?_) hL
  · rw [List.map_cons, z_rv2, z_refp (by omega), Int.toNat_natCast] at k2
    exact k2
  · rw [z_cell_obj hl hci]
    refine ⟨_, hc, (u_born ty hts hin hKn hkC e1 hty).to (fun j hj => ?_)⟩
    rw [hdef j hj B]
    simp [vp_V, hj, z_new_0]
theorem z_cats (B b : Nat) (st : List ZV) : ((st.map (z_rv B b)).map fun v => v.category) = st.map (fun v => if v.1 = 1 then 2 else 1) := by
  rw [List.map_map]
  apply List.map_congr_left
  intro v _
  show (z_rv B b v).category = _
  by_cases h : v.1 = 1
  · rw [if_pos h]
    obtain ⟨t, x⟩ := v
    dsimp only at h
    subst h
    rfl
  · rw [if_neg h]; exact z_cat1 B b h
set_option maxHeartbeats 100000 in
theorem Z_objInit {idx : Nat} {a : Int} (hd : decode M.2.1 pc = .ok (.invokespecial idx, 3)) (ha : 0 < a) (hw : Cond.methodLink M.1.cls idx objectInit ∈ z_us) (hw2 : Cond.instanceMethod objectInit ∈ z_us) (hw3 : Cond.code objectInit ⟨#[0xb1]⟩ 1 none ∈ z_us) (hf : 1 ≤ ρ.1) (hs : (st.map (fun v => if v.1 = 1 then 2 else 1)).sum ≤ 8) (hr : 20 ≤ ρ.2.1) (k : Z X ρ M (pc + 3) L st n σ Q) : Z X ρ M pc L ((2, a) :: st) n σ Q := by
  refine Z_pure (fun p l e R s m args below meth c B b D cA Qf H locs cells slots ls hF hD hL kk => ?_) k
  have k2 := kk ls hL
  rw [List.map_cons, z_rv2, z_refp ha]
  have hts := hF.2.2.2.2.2.2.2.1
  have h8 : 2 * (F0 m pc ls (va_rf (some (B + a.toNat)) :: st.map (z_rv B b))).monitorRoom + ((st.map (z_rv B b)).map fun v => v.category).sum ≤ 8 := lv_room (by rw [z_cats]; exact hs)
  have hl2 := hF.2.2.2.2.2.2.2.2.2.2.2.2.2
  exact W.objInit hF.1 hF.2.1 hF.2.2.2.2.2.1 (hts _ hw) (hts _ hw2) (hts _ hw3) rfl (by rw [hF.2.2.2.2.1]; exact hL.1) rfl hd (Nat.le_trans hf hF.2.2.2.2.2.2.2.2.2.2.2.2.1) (by omega) k2
end ZAlloc
