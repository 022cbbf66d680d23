section ZRules
variable {X : ZS} {ρ : ZR} {M : ZT} {pc : Nat} {L st : List ZV} {n : Nat} {σ : ZM} {Q : ZV → ZM → Prop}
theorem Z_iconst {x : Int} (hd : decode M.2.1 pc = .ok (.iconst x, 1)) (k : Z X ρ M (pc + 1) L ((0, x) :: st) n σ Q) : Z X ρ M pc L st n σ Q :=
  Z_pure (fun p l e R s m args below meth c B b D cA Qf H locs cells slots ls hF hD hL kk => lv_iconst hF.1 hF.2.1 hd rfl (kk ls hL)) k
theorem Z_bipush {x : Int} (hd : decode M.2.1 pc = .ok (.bipush x, 2)) (hv : (Int8.ofInt x).toInt32 = iz x) (k : Z X ρ M (pc + 2) L ((0, x) :: st) n σ Q) : Z X ρ M pc L st n σ Q :=
  Z_pure (fun p l e R s m args below meth c B b D cA Qf H locs cells slots ls hF hD hL kk => lv_bipush hF.1 hF.2.1 hd hv (kk ls hL)) k
theorem Z_sipush {x : Int} (hd : decode M.2.1 pc = .ok (.sipush x, 3)) (hv : (Int16.ofInt x).toInt32 = iz x) (k : Z X ρ M (pc + 3) L ((0, x) :: st) n σ Q) : Z X ρ M pc L st n σ Q :=
  Z_pure (fun p l e R s m args below meth c B b D cA Qf H locs cells slots ls hF hD hL kk => lv_sipush hF.1 hF.2.1 hd hv (kk ls hL)) k
theorem Z_lconst {i : Fin 2} {x : Int} (hd : decode M.2.1 pc = .ok (.lconst i, 1)) (hv : Int64.ofNat (i : Nat) = lz x) (k : Z X ρ M (pc + 1) L ((1, x) :: st) n σ Q) : Z X ρ M pc L st n σ Q :=
  Z_pure (fun p l e R s m args below meth c B b D cA Qf H locs cells slots ls hF hD hL kk => lv_lconst hF.1 hF.2.1 hd hv (kk ls hL)) k
theorem Z_ldc {i : Nat} {x : Int} {v : Int32} (hd : decode M.2.1 pc = .ok (.ldc i, 2)) (hw : Cond.constant M.1.cls i v ∈ z_us) (hv : v = iz x) (k : Z X ρ M (pc + 2) L ((0, x) :: st) n σ Q) : Z X ρ M pc L st n σ Q :=
  Z_pure (fun p l e R s m args below meth c B b D cA Qf H locs cells slots ls hF hD hL kk => by
    subst hv
    exact lv_ldc hF.1 hF.2.1 hF.2.2.2.2.2.1 (hF.2.2.2.2.2.2.2.1 _ hw) hd (kk ls hL)) k
theorem Z_ldc2 {i : Nat} {x : Int} {v : Int64} (hd : decode M.2.1 pc = .ok (.ldc2_w i, 3)) (hw : Cond.constantLong M.1.cls i v ∈ z_us) (hv : v = lz x) (k : Z X ρ M (pc + 3) L ((1, x) :: st) n σ Q) : Z X ρ M pc L st n σ Q :=
  Z_pure (fun p l e R s m args below meth c B b D cA Qf H locs cells slots ls hF hD hL kk => by
    subst hv
    exact lv_ldc2 hF.1 hF.2.1 hF.2.2.2.2.2.1 (hF.2.2.2.2.2.2.2.1 _ hw) hd (kk ls hL)) k
theorem Z_iload_n {j : Fin 4} {x : Int} (i : Nat) (hd : decode M.2.1 pc = .ok (.iload_n j, 1)) (hi : (j : Nat) = i) (hl : L[i]? = some (0, x)) (k : Z X ρ M (pc + 1) L ((0, x) :: st) n σ Q) : Z X ρ M pc L st n σ Q :=
  Z_pure (fun p l e R s m args below meth c B b D cA Qf H locs cells slots ls hF hD hL kk => lv_iload_n hF.1 hF.2.1 hd hi (hL.2.2 i _ hl (by simp)) (kk ls hL)) k
theorem Z_iload {x : Int} {i : Nat} (hd : decode M.2.1 pc = .ok (.iload i, 2)) (hl : L[i]? = some (0, x)) (k : Z X ρ M (pc + 2) L ((0, x) :: st) n σ Q) : Z X ρ M pc L st n σ Q :=
  Z_pure (fun p l e R s m args below meth c B b D cA Qf H locs cells slots ls hF hD hL kk => lv_iload hF.1 hF.2.1 hd (hL.2.2 i _ hl (by simp)) (kk ls hL)) k
theorem Z_lload_n {j : Fin 4} {x : Int} (i : Nat) (hd : decode M.2.1 pc = .ok (.lload_n j, 1)) (hi : (j : Nat) = i) (hl : L[i]? = some (1, x)) (k : Z X ρ M (pc + 1) L ((1, x) :: st) n σ Q) : Z X ρ M pc L st n σ Q :=
  Z_pure (fun p l e R s m args below meth c B b D cA Qf H locs cells slots ls hF hD hL kk => lv_lload_n hF.1 hF.2.1 hd hi (hL.2.2 i _ hl (by simp)) (kk ls hL)) k
theorem Z_lload {x : Int} {i : Nat} (hd : decode M.2.1 pc = .ok (.lload i, 2)) (hl : L[i]? = some (1, x)) (k : Z X ρ M (pc + 2) L ((1, x) :: st) n σ Q) : Z X ρ M pc L st n σ Q :=
  Z_pure (fun p l e R s m args below meth c B b D cA Qf H locs cells slots ls hF hD hL kk => lv_lload hF.1 hF.2.1 hd (hL.2.2 i _ hl (by simp)) (kk ls hL)) k
theorem Z_aload_n {j : Fin 4} {x : Int} (i : Nat) (hd : decode M.2.1 pc = .ok (.aload_n j, 1)) (hi : (j : Nat) = i) (hl : L[i]? = some (2, x)) (k : Z X ρ M (pc + 1) L ((2, x) :: st) n σ Q) : Z X ρ M pc L st n σ Q :=
  Z_pure (fun p l e R s m args below meth c B b D cA Qf H locs cells slots ls hF hD hL kk => by
    have h := hL.2.2 i _ hl (by simp)
    have k2 := kk ls hL
    simp only [List.map_cons, z_rv2] at h k2
    cases hr : z_ref B x with
    | none => rw [hr] at h k2; exact lv_aload_nN hF.1 hF.2.1 hd hi h k2
    | some a => rw [hr] at h k2; exact lv_aload_n hF.1 hF.2.1 hd hi h k2) k
theorem Z_aload {x : Int} {i : Nat} (hd : decode M.2.1 pc = .ok (.aload i, 2)) (hl : L[i]? = some (2, x)) (k : Z X ρ M (pc + 2) L ((2, x) :: st) n σ Q) : Z X ρ M pc L st n σ Q :=
  Z_pure (fun p l e R s m args below meth c B b D cA Qf H locs cells slots ls hF hD hL kk => by
    have h := hL.2.2 i _ hl (by simp)
    have k2 := kk ls hL
    simp only [List.map_cons, z_rv2] at h k2
    cases hr : z_ref B x with
    | none => rw [hr] at h k2; exact lv_aloadN hF.1 hF.2.1 hd h k2
    | some a => rw [hr] at h k2; exact lv_aload hF.1 hF.2.1 hd h k2) k
theorem Z_xload_n {j : Fin 4} {x : Int} (i : Nat) (hd : decode M.2.1 pc = .ok (.aload_n j, 1)) (hi : (j : Nat) = i) (hl : L[i]? = some (3, x)) (k : Z X ρ M (pc + 1) L ((3, x) :: st) n σ Q) : Z X ρ M pc L st n σ Q :=
  Z_pure (fun p l e R s m args below meth c B b D cA Qf H locs cells slots ls hF hD hL kk => lv_aload_n hF.1 hF.2.1 hd hi (hL.2.2 i _ hl (by simp)) (kk ls hL)) k
/-! stores -/
def z_al (B b : Nat) (L : List ZV) : List (Nat × Value) := (List.range L.length).filterMap (fun i => match L[i]? with
  | some v => if v.1 = 9 then none else some (i, z_rv B b v)
  | none => none)
theorem z_al_mem {B b : Nat} {L : List ZV} {i : Nat} {w : Value} : (i, w) ∈ z_al B b L ↔ ∃ v, L[i]? = some v ∧ v.1 ≠ 9 ∧ w = z_rv B b v := by
  unfold z_al
  rw [List.mem_filterMap]
  constructor
  · rintro ⟨j, hj, h⟩
    cases hv : L[j]? with
    | none => rw [hv] at h; cases h
    | some v =>
      rw [hv] at h
      by_cases h9 : v.1 = 9
      · simp [h9] at h
      · simp only [h9, if_false, Option.some.injEq, Prod.mk.injEq] at h
        obtain ⟨rfl, rfl⟩ := h
        exact ⟨v, hv, h9, rfl⟩
  · rintro ⟨v, hv, h9, rfl⟩
    refine ⟨i, List.mem_range.mpr (List.getElem?_eq_some_iff.mp hv).1, ?_⟩
    rw [hv]
    simp [h9]
theorem z_loc_has {B b nL : Nat} {L : List ZV} {ls : Array Slot} : z_loc B b nL L ls ↔ lv_has ls nL (z_al B b L) := by
  constructor
  · rintro ⟨h1, h2, h3⟩
    refine ⟨h1, h2, fun q hq => ?_⟩
    obtain ⟨i, w⟩ := q
    obtain ⟨v, hv, h9, rfl⟩ := z_al_mem.mp hq
    exact h3 i v hv h9
  · rintro ⟨h1, h2, h3⟩
    exact ⟨h1, h2, fun i v hv h9 => h3 (i, z_rv B b v) (z_al_mem.mpr ⟨v, hv, h9, rfl⟩)⟩
/-- locals behind a store: a long whose second half is overwritten is gone -/
def z_set (L : List ZV) (i : Nat) (v : ZV) : List ZV := (match i with
  | 0 => L
  | j + 1 => if (L.getD j (9, 0)).1 = 1 then L.set j (9, 0) else L).set i v
theorem z_set_get {L : List ZV} {i j : Nat} {v w : ZV} (h : (z_set L i v)[j]? = some w) (h9 : w.1 ≠ 9) : (j = i ∧ w = v) ∨ (j ≠ i ∧ L[j]? = some w ∧ ¬ (j + 1 = i ∧ w.1 = 1)) := by
  unfold z_set at h
  by_cases hj : j = i
  · subst hj
    refine Or.inl ⟨rfl, ?_⟩
    rw [List.getElem?_set_self'] at h
    cases hg : (match j with | 0 => L | j + 1 => if (L.getD j (9, 0)).1 = 1 then L.set j (9, 0) else L)[j]? with
    | none => rw [hg] at h; cases h
    | some z => rw [hg] at h; simpa using h.symm
  · refine Or.inr ⟨hj, ?_⟩
    rw [List.getElem?_set_ne (fun q => hj q.symm)] at h
    cases i with
    | zero => exact ⟨h, fun q => absurd q.1 (by omega)⟩
    | succ i =>
      dsimp only at h
      by_cases hc : (L.getD i (9, 0)).1 = 1
      · rw [if_pos hc] at h
        by_cases hji : j = i
        · subst hji
          rw [List.getElem?_set_self'] at h
          cases hg : L[j]? with
          | none => rw [hg] at h; cases h
          | some z => rw [hg] at h; simp at h; rw [← h] at h9; exact absurd rfl h9
        · rw [List.getElem?_set_ne (fun q => hji q.symm)] at h
          exact ⟨h, fun q => hji (by omega)⟩
      · rw [if_neg hc] at h
        refine ⟨h, fun q => hc ?_⟩
        have : j = i := by omega
        subst this
        rw [List.getD_eq_getElem?_getD, h]
        exact q.2
theorem z_cat {B b : Nat} {v : ZV} (h : (z_rv B b v).category = 2) : v.1 = 1 := by
  obtain ⟨t, x⟩ := v
  match t, h with
  | 0, h => cases h
  | 1, h => rfl
  | 2, h =>
    rw [z_rv2] at h
    cases hr : z_ref B x <;> rw [hr] at h <;> cases h
  | t + 3, h => cases h
theorem z_store1 {B b nL : Nat} {L : List ZV} {ls' : Array Slot} {i : Nat} {v : ZV} (h : lv_has ls' nL ((i, z_rv B b v) :: (z_al B b L).filter (fun q => !(q.1 == i) && !(q.1 + 1 == i && q.2.category == 2)))) : z_loc B b nL (z_set L i v) ls' := by
  refine ⟨h.1, h.2.1, fun j w hw h9 => ?_⟩
  rcases z_set_get hw h9 with ⟨rfl, rfl⟩ | ⟨h1, h2, h3⟩
  · exact h.2.2 (j, z_rv B b w) List.mem_cons_self
  · refine h.2.2 (j, z_rv B b w) (List.mem_cons_of_mem _ (List.mem_filter.mpr ⟨z_al_mem.mpr ⟨w, h2, h9, rfl⟩, ?_⟩))
    by_cases hq : j + 1 = i
    · have hn : ¬ (z_rv B b w).category = 2 := fun q => h3 ⟨hq, z_cat q⟩
      simp [h1, hn]
    · simp [h1, hq]
theorem z_store2 {B b nL : Nat} {L : List ZV} {ls' : Array Slot} {i : Nat} {x : Int} (h : lv_has ls' nL ((i, z_rv B b (1, x)) :: (z_al B b L).filter (fun q => !(q.1 == i) && (!(q.1 == i + 1) && !(q.1 + 1 == i && q.2.category == 2))))) : z_loc B b nL ((z_set L i (1, x)).set (i + 1) (9, 0)) ls' := by
  refine ⟨h.1, h.2.1, fun j w hw h9 => ?_⟩
  have hji : j ≠ i + 1 := by
    intro q
    subst q
    rw [List.getElem?_set_self'] at hw
    cases hg : (z_set L i (1, x))[i + 1]? with
    | none => rw [hg] at hw; cases hw
    | some z => rw [hg] at hw; simp at hw; rw [← hw] at h9; exact absurd rfl h9
  rw [List.getElem?_set_ne (fun q => hji q.symm)] at hw
  rcases z_set_get hw h9 with ⟨rfl, rfl⟩ | ⟨h1, h2, h3⟩
  · exact h.2.2 (j, z_rv B b (1, x)) List.mem_cons_self
  · refine h.2.2 (j, z_rv B b w) (List.mem_cons_of_mem _ (List.mem_filter.mpr ⟨z_al_mem.mpr ⟨w, h2, h9, rfl⟩, ?_⟩))
    by_cases hq : j + 1 = i
    · have hn : ¬ (z_rv B b w).category = 2 := fun q => h3 ⟨hq, z_cat q⟩
      simp [h1, hn, hji]
    · simp [h1, hq, hji]
theorem Z_istore_n {j : Fin 4} {x : Int} {L' : List ZV} (i : Nat) (hd : decode M.2.1 pc = .ok (.istore_n j, 1)) (hi : (j : Nat) = i) (hn : i < M.2.2.1) (hL' : z_set L i (0, x) = L') (k : Z X ρ M (pc + 1) L' st n σ Q) : Z X ρ M pc L ((0, x) :: st) n σ Q :=
  Z_pure (fun p l e R s m args below meth c B b D cA Qf H locs cells slots ls hF hD hL kk => by
    subst hL'
    exact lv_istore_n hF.1 hF.2.1 hd hi (z_loc_has.mp hL) hn rfl (fun ls' h => kk ls' (z_store1 h))) k
theorem Z_istore {x : Int} {L' : List ZV} {i : Nat} (hd : decode M.2.1 pc = .ok (.istore i, 2)) (hn : i < M.2.2.1) (hL' : z_set L i (0, x) = L') (k : Z X ρ M (pc + 2) L' st n σ Q) : Z X ρ M pc L ((0, x) :: st) n σ Q :=
  Z_pure (fun p l e R s m args below meth c B b D cA Qf H locs cells slots ls hF hD hL kk => by
    subst hL'
    exact lv_istore hF.1 hF.2.1 hd (z_loc_has.mp hL) hn rfl (fun ls' h => kk ls' (z_store1 h))) k
theorem Z_lstore_n {j : Fin 4} {x : Int} {L' : List ZV} (i : Nat) (hd : decode M.2.1 pc = .ok (.lstore_n j, 1)) (hi : (j : Nat) = i) (hn : i + 1 < M.2.2.1) (hL' : (z_set L i (1, x)).set (i + 1) (9, 0) = L') (k : Z X ρ M (pc + 1) L' st n σ Q) : Z X ρ M pc L ((1, x) :: st) n σ Q :=
  Z_pure (fun p l e R s m args below meth c B b D cA Qf H locs cells slots ls hF hD hL kk => by
    subst hL'
    exact lv_lstore_n hF.1 hF.2.1 hd hi (z_loc_has.mp hL) hn rfl (fun ls' h => kk ls' (z_store2 h))) k
theorem Z_lstore {x : Int} {L' : List ZV} {i : Nat} (hd : decode M.2.1 pc = .ok (.lstore i, 2)) (hn : i + 1 < M.2.2.1) (hL' : (z_set L i (1, x)).set (i + 1) (9, 0) = L') (k : Z X ρ M (pc + 2) L' st n σ Q) : Z X ρ M pc L ((1, x) :: st) n σ Q :=
  Z_pure (fun p l e R s m args below meth c B b D cA Qf H locs cells slots ls hF hD hL kk => by
    subst hL'
    exact lv_lstore hF.1 hF.2.1 hd (z_loc_has.mp hL) hn rfl (fun ls' h => kk ls' (z_store2 h))) k
theorem Z_astore_n {j : Fin 4} {x : Int} {L' : List ZV} (i : Nat) (hd : decode M.2.1 pc = .ok (.astore_n j, 1)) (hi : (j : Nat) = i) (hn : i < M.2.2.1) (hL' : z_set L i (2, x) = L') (k : Z X ρ M (pc + 1) L' st n σ Q) : Z X ρ M pc L ((2, x) :: st) n σ Q :=
  Z_pure (fun p l e R s m args below meth c B b D cA Qf H locs cells slots ls hF hD hL kk => by
    subst hL'
    have k2 := fun ls' h => kk ls' (z_store1 (B := B) (b := b) (v := (2, x)) h)
    rw [List.map_cons, z_rv2]
    rw [z_rv2] at k2
    cases hr : z_ref B x with
    | none => rw [hr] at k2; exact lv_astore_nN hF.1 hF.2.1 hd hi (z_loc_has.mp hL) hn rfl k2
    | some a => rw [hr] at k2; exact lv_astore_n hF.1 hF.2.1 hd hi (z_loc_has.mp hL) hn rfl k2) k
theorem Z_astore {x : Int} {L' : List ZV} {i : Nat} (hd : decode M.2.1 pc = .ok (.astore i, 2)) (hn : i < M.2.2.1) (hL' : z_set L i (2, x) = L') (k : Z X ρ M (pc + 2) L' st n σ Q) : Z X ρ M pc L ((2, x) :: st) n σ Q :=
  Z_pure (fun p l e R s m args below meth c B b D cA Qf H locs cells slots ls hF hD hL kk => by
    subst hL'
    have k2 := fun ls' h => kk ls' (z_store1 (B := B) (b := b) (v := (2, x)) h)
    rw [List.map_cons, z_rv2]
    rw [z_rv2] at k2
    cases hr : z_ref B x with
    | none => rw [hr] at k2; exact lv_astoreN hF.1 hF.2.1 hd (z_loc_has.mp hL) hn rfl k2
    | some a => rw [hr] at k2; exact lv_astore hF.1 hF.2.1 hd (z_loc_has.mp hL) hn rfl k2) k
theorem Z_iinc {x d : Int} {L' : List ZV} {i : Nat} (hd : decode M.2.1 pc = .ok (.iinc i d, 3)) (hl : L[i]? = some (0, x)) (hn : i < M.2.2.1) (hL' : z_set L i (0, x + d) = L') (k : Z X ρ M (pc + 3) L' st n σ Q) : Z X ρ M pc L st n σ Q :=
  Z_pure (fun p l e R s m args below meth c B b D cA Qf H locs cells slots ls hF hD hL kk => by
    subst hL'
    obtain ⟨j, hj⟩ := List.getElem?_of_mem (z_al_mem.mpr ⟨_, hl, by simp, rfl⟩ : (i, z_rv B b (0, x)) ∈ z_al B b L)
    exact lv_iinc hF.1 hF.2.1 hd (z_loc_has.mp hL) hj (iz_add x d) hn rfl (fun ls' h => kk ls' (z_store1 (v := (0, x + d)) h))) k
end ZRules
