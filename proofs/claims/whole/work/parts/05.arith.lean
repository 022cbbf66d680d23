section ZArith
variable {X : ZS} {ρ : ZR} {M : ZT} {pc : Nat} {L st : List ZV} {n : Nat} {σ : ZM} {Q : ZV → ZM → Prop}
theorem Z_iadd {x y : Int} (hd : decode M.2.1 pc = .ok (.iadd, 1))  (k : Z X ρ M (pc + 1) L ((0, x + y) :: st) n σ Q) : Z X ρ M pc L ((0, y) :: (0, x) :: st) n σ Q :=
  Z_pure (fun p l e R s m args below meth c B b D cA Qf H locs cells slots ls hF hD hL kk => by
    have k2 := kk ls hL
    simp only [List.map_cons, z_rv0] at k2 ⊢
    refine lv_iadd hF.1 hF.2.1 hd  ?_
    rw [iz_add]
    exact k2) k
theorem Z_isub {x y : Int} (hd : decode M.2.1 pc = .ok (.isub, 1))  (k : Z X ρ M (pc + 1) L ((0, x - y) :: st) n σ Q) : Z X ρ M pc L ((0, y) :: (0, x) :: st) n σ Q :=
  Z_pure (fun p l e R s m args below meth c B b D cA Qf H locs cells slots ls hF hD hL kk => by
    have k2 := kk ls hL
    simp only [List.map_cons, z_rv0] at k2 ⊢
    refine lv_isub hF.1 hF.2.1 hd  ?_
    rw [iz_sub]
    exact k2) k
theorem Z_imul {x y : Int} (hd : decode M.2.1 pc = .ok (.imul, 1))  (k : Z X ρ M (pc + 1) L ((0, x * y) :: st) n σ Q) : Z X ρ M pc L ((0, y) :: (0, x) :: st) n σ Q :=
  Z_pure (fun p l e R s m args below meth c B b D cA Qf H locs cells slots ls hF hD hL kk => by
    have k2 := kk ls hL
    simp only [List.map_cons, z_rv0] at k2 ⊢
    refine lv_imul hF.1 hF.2.1 hd  ?_
    rw [iz_mul]
    exact k2) k
theorem Z_ladd {x y : Int} (hd : decode M.2.1 pc = .ok (.ladd, 1))  (k : Z X ρ M (pc + 1) L ((1, x + y) :: st) n σ Q) : Z X ρ M pc L ((1, y) :: (1, x) :: st) n σ Q :=
  Z_pure (fun p l e R s m args below meth c B b D cA Qf H locs cells slots ls hF hD hL kk => by
    have k2 := kk ls hL
    simp only [List.map_cons, z_rv1] at k2 ⊢
    refine lv_ladd hF.1 hF.2.1 hd  ?_
    rw [lz_add]
    exact k2) k
theorem Z_lsub {x y : Int} (hd : decode M.2.1 pc = .ok (.lsub, 1))  (k : Z X ρ M (pc + 1) L ((1, x - y) :: st) n σ Q) : Z X ρ M pc L ((1, y) :: (1, x) :: st) n σ Q :=
  Z_pure (fun p l e R s m args below meth c B b D cA Qf H locs cells slots ls hF hD hL kk => by
    have k2 := kk ls hL
    simp only [List.map_cons, z_rv1] at k2 ⊢
    refine lv_lsub hF.1 hF.2.1 hd  ?_
    rw [lz_sub]
    exact k2) k
theorem Z_lmul {x y : Int} (hd : decode M.2.1 pc = .ok (.lmul, 1))  (k : Z X ρ M (pc + 1) L ((1, x * y) :: st) n σ Q) : Z X ρ M pc L ((1, y) :: (1, x) :: st) n σ Q :=
  Z_pure (fun p l e R s m args below meth c B b D cA Qf H locs cells slots ls hF hD hL kk => by
    have k2 := kk ls hL
    simp only [List.map_cons, z_rv1] at k2 ⊢
    refine lv_lmul hF.1 hF.2.1 hd  ?_
    rw [lz_mul]
    exact k2) k
theorem Z_irem {x y : Int} (hd : decode M.2.1 pc = .ok (.irem, 1)) (hx : r32 x) (hy : r32 y) (h0 : y ≠ 0) (k : Z X ρ M (pc + 1) L ((0, x.tmod y) :: st) n σ Q) : Z X ρ M pc L ((0, y) :: (0, x) :: st) n σ Q :=
  Z_pure (fun p l e R s m args below meth c B b D cA Qf H locs cells slots ls hF hD hL kk => by
    have k2 := kk ls hL
    simp only [List.map_cons, z_rv0] at k2 ⊢
    refine lv_irem hF.1 hF.2.1 hd (fun q => h0 ((iz_eq hy r32_0).mp q)) ?_
    rw [iz_rem hx hy]
    exact k2) k
theorem Z_ldiv {x y : Int} (hd : decode M.2.1 pc = .ok (.ldiv, 1)) (hx : r64 x) (hy : r64 y) (h0 : y ≠ 0) (k : Z X ρ M (pc + 1) L ((1, x.tdiv y) :: st) n σ Q) : Z X ρ M pc L ((1, y) :: (1, x) :: st) n σ Q :=
  Z_pure (fun p l e R s m args below meth c B b D cA Qf H locs cells slots ls hF hD hL kk => by
    have k2 := kk ls hL
    simp only [List.map_cons, z_rv1] at k2 ⊢
    refine lv_ldiv hF.1 hF.2.1 hd (fun q => h0 ((lz_eq hy ⟨by decide, by decide⟩).mp q)) ?_
    rw [lz_div hx hy]
    exact k2) k
theorem Z_lrem {x y : Int} (hd : decode M.2.1 pc = .ok (.lrem, 1)) (hx : r64 x) (hy : r64 y) (h0 : y ≠ 0) (k : Z X ρ M (pc + 1) L ((1, x.tmod y) :: st) n σ Q) : Z X ρ M pc L ((1, y) :: (1, x) :: st) n σ Q :=
  Z_pure (fun p l e R s m args below meth c B b D cA Qf H locs cells slots ls hF hD hL kk => by
    have k2 := kk ls hL
    simp only [List.map_cons, z_rv1] at k2 ⊢
    refine lv_lrem hF.1 hF.2.1 hd (fun q => h0 ((lz_eq hy ⟨by decide, by decide⟩).mp q)) ?_
    rw [lz_rem hx hy]
    exact k2) k
theorem Z_ineg {x : Int} (hd : decode M.2.1 pc = .ok (.ineg, 1)) (k : Z X ρ M (pc + 1) L ((0, -x) :: st) n σ Q) : Z X ρ M pc L ((0, x) :: st) n σ Q :=
  Z_pure (fun p l e R s m args below meth c B b D cA Qf H locs cells slots ls hF hD hL kk => by
    have k2 := kk ls hL
    simp only [List.map_cons, z_rv0] at k2 ⊢
    refine lv_ineg hF.1 hF.2.1 hd ?_
    rw [iz_neg]
    exact k2) k
theorem Z_lneg {x : Int} (hd : decode M.2.1 pc = .ok (.lneg, 1)) (k : Z X ρ M (pc + 1) L ((1, -x) :: st) n σ Q) : Z X ρ M pc L ((1, x) :: st) n σ Q :=
  Z_pure (fun p l e R s m args below meth c B b D cA Qf H locs cells slots ls hF hD hL kk => by
    have k2 := kk ls hL
    simp only [List.map_cons, z_rv1] at k2 ⊢
    refine lv_lneg hF.1 hF.2.1 hd ?_
    rw [lz_neg]
    exact k2) k
theorem Z_iand {x m : Int} (j : Nat) (hd : decode M.2.1 pc = .ok (.iand, 1)) (hj : j ≤ 30) (hm : m = 2 ^ j - 1) (k : Z X ρ M (pc + 1) L ((0, x % 2 ^ j) :: st) n σ Q) : Z X ρ M pc L ((0, m) :: (0, x) :: st) n σ Q :=
  Z_pure (fun p l e R s m args below meth c B b D cA Qf H locs cells slots ls hF hD hL kk => by
    have k2 := kk ls hL
    simp only [List.map_cons, z_rv0] at k2 ⊢
    refine lv_iand hF.1 hF.2.1 hd ?_
    rw [iz_mask hj hm]
    exact k2) k
theorem Z_ishl {x y : Int} (hd : decode M.2.1 pc = .ok (.ishl, 1)) (h0 : 0 ≤ y) (h1 : y < 32) (k : Z X ρ M (pc + 1) L ((0, x * 2 ^ y.toNat) :: st) n σ Q) : Z X ρ M pc L ((0, y) :: (0, x) :: st) n σ Q :=
  Z_pure (fun p l e R s m args below meth c B b D cA Qf H locs cells slots ls hF hD hL kk => by
    have k2 := kk ls hL
    simp only [List.map_cons, z_rv0] at k2 ⊢
    refine lv_ishl hF.1 hF.2.1 hd ?_
    rw [iz_shl (k := y.toNat) (by omega) (by omega)]
    exact k2) k
theorem Z_ishr {x y : Int} (hd : decode M.2.1 pc = .ok (.ishr, 1)) (h0 : 0 ≤ y) (h1 : y < 32) (hx : r32 x) (k : Z X ρ M (pc + 1) L ((0, x / 2 ^ y.toNat) :: st) n σ Q) : Z X ρ M pc L ((0, y) :: (0, x) :: st) n σ Q :=
  Z_pure (fun p l e R s m args below meth c B b D cA Qf H locs cells slots ls hF hD hL kk => by
    have k2 := kk ls hL
    simp only [List.map_cons, z_rv0] at k2 ⊢
    refine lv_ishr hF.1 hF.2.1 hd ?_
    rw [iz_shr (k := y.toNat) (by omega) (by omega) hx]
    exact k2) k
theorem Z_land {x : Int} (hd : decode M.2.1 pc = .ok (.land, 1)) (k : Z X ρ M (pc + 1) L ((1, x % 4294967296) :: st) n σ Q) : Z X ρ M pc L ((1, 4294967295) :: (1, x) :: st) n σ Q :=
  Z_pure (fun p l e R s m args below meth c B b D cA Qf H locs cells slots ls hF hD hL kk => by
    have k2 := kk ls hL
    simp only [List.map_cons, z_rv1] at k2 ⊢
    refine lv_land hF.1 hF.2.1 hd ?_
    rw [lz_mask32]
    exact k2) k
theorem Z_lor {x y : Int} (hd : decode M.2.1 pc = .ok (.lor, 1)) (h0 : 0 ≤ y) (h1 : y < 4294967296) (k : Z X ρ M (pc + 1) L ((1, x * 4294967296 + y) :: st) n σ Q) : Z X ρ M pc L ((1, y) :: (1, x * 4294967296) :: st) n σ Q :=
  Z_pure (fun p l e R s m args below meth c B b D cA Qf H locs cells slots ls hF hD hL kk => by
    have k2 := kk ls hL
    simp only [List.map_cons, z_rv1] at k2 ⊢
    refine lv_lor hF.1 hF.2.1 hd ?_
    rw [lz_or32 h0 h1]
    exact k2) k
theorem Z_lors {x y : Int} (hd : decode M.2.1 pc = .ok (.lor, 1)) (h : x = 0 ∨ x = -1) (k : Z X ρ M (pc + 1) L ((1, if x = 0 then y else -1) :: st) n σ Q) : Z X ρ M pc L ((1, y) :: (1, x) :: st) n σ Q :=
  Z_pure (fun p l e R s m args below meth c B b D cA Qf H locs cells slots ls hF hD hL kk => by
    have k2 := kk ls hL
    simp only [List.map_cons, z_rv1] at k2 ⊢
    refine lv_lor hF.1 hF.2.1 hd ?_
    rcases h with rfl | rfl
    · rw [lz_or0]; exact k2
    · rw [lz_orm]; exact k2) k
theorem Z_lxor {x y : Int} (hd : decode M.2.1 pc = .ok (.lxor, 1)) (hx : r64 x) (hy : r64 y) (k : ∀ z : Int, r64 z → (z < 0 ↔ ¬ (x < 0 ↔ y < 0)) → Z X ρ M (pc + 1) L ((1, z) :: st) n σ Q) : Z X ρ M pc L ((1, y) :: (1, x) :: st) n σ Q := by
  obtain ⟨z, h1, h2, h3⟩ := lz_xor hx hy
  exact Z_pure (fun p l e R s m args below meth c B b D cA Qf H locs cells slots ls hF hD hL kk => by
    have k2 := kk ls hL
    simp only [List.map_cons, z_rv1] at k2 ⊢
    refine lv_lxor hF.1 hF.2.1 hd ?_
    rw [h3]
    exact k2) (k z h1 h2)
theorem Z_lshl {x : Int} (hd : decode M.2.1 pc = .ok (.lshl, 1)) (k : Z X ρ M (pc + 1) L ((1, x * 4294967296) :: st) n σ Q) : Z X ρ M pc L ((0, 32) :: (1, x) :: st) n σ Q :=
  Z_pure (fun p l e R s m args below meth c B b D cA Qf H locs cells slots ls hF hD hL kk => lv_lshl hF.1 hF.2.1 hd (lz_shl32 x) (kk ls hL)) k
theorem Z_lshr {x : Int} (hd : decode M.2.1 pc = .ok (.lshr, 1)) (hx : r64 x) (k : Z X ρ M (pc + 1) L ((1, if x < 0 then -1 else 0) :: st) n σ Q) : Z X ρ M pc L ((0, 63) :: (1, x) :: st) n σ Q :=
  Z_pure (fun p l e R s m args below meth c B b D cA Qf H locs cells slots ls hF hD hL kk => lv_lshr hF.1 hF.2.1 hd (lz_shr63 hx) (kk ls hL)) k
theorem Z_lushr {x : Int} (hd : decode M.2.1 pc = .ok (.lushr, 1)) (hx : r64 x) (k : Z X ρ M (pc + 1) L ((1, if x < 0 then 1 else 0) :: st) n σ Q) : Z X ρ M pc L ((0, 63) :: (1, x) :: st) n σ Q :=
  Z_pure (fun p l e R s m args below meth c B b D cA Qf H locs cells slots ls hF hD hL kk => lv_lushr hF.1 hF.2.1 hd (lz_ushr63 hx) (kk ls hL)) k
theorem Z_i2l {x : Int} (hd : decode M.2.1 pc = .ok (.i2l, 1)) (hx : r32 x) (k : Z X ρ M (pc + 1) L ((1, x) :: st) n σ Q) : Z X ρ M pc L ((0, x) :: st) n σ Q :=
  Z_pure (fun p l e R s m args below meth c B b D cA Qf H locs cells slots ls hF hD hL kk => lv_i2l hF.1 hF.2.1 hd (iz_i2l hx) (kk ls hL)) k
theorem Z_l2i {x : Int} (hd : decode M.2.1 pc = .ok (.l2i, 1)) (k : Z X ρ M (pc + 1) L ((0, x) :: st) n σ Q) : Z X ρ M pc L ((1, x) :: st) n σ Q :=
  Z_pure (fun p l e R s m args below meth c B b D cA Qf H locs cells slots ls hF hD hL kk => lv_l2i hF.1 hF.2.1 hd (lz_l2i x) (kk ls hL)) k
theorem Z_i2b {x : Int} (hd : decode M.2.1 pc = .ok (.i2b, 1)) (k : Z X ρ M (pc + 1) L ((0, x.bmod 256) :: st) n σ Q) : Z X ρ M pc L ((0, x) :: st) n σ Q :=
  Z_pure (fun p l e R s m args below meth c B b D cA Qf H locs cells slots ls hF hD hL kk => lv_i2b hF.1 hF.2.1 hd (iz_i2b x) (kk ls hL)) k
theorem Z_i2s {x : Int} (hd : decode M.2.1 pc = .ok (.i2s, 1)) (k : Z X ρ M (pc + 1) L ((0, x.bmod 65536) :: st) n σ Q) : Z X ρ M pc L ((0, x) :: st) n σ Q :=
  Z_pure (fun p l e R s m args below meth c B b D cA Qf H locs cells slots ls hF hD hL kk => lv_i2s hF.1 hF.2.1 hd (iz_i2s x) (kk ls hL)) k
theorem Z_lcmp {x y : Int} (hd : decode M.2.1 pc = .ok (.lcmp, 1)) (hx : r64 x) (hy : r64 y) (k : Z X ρ M (pc + 1) L ((0, if y < x then 1 else if x = y then 0 else -1) :: st) n σ Q) : Z X ρ M pc L ((1, y) :: (1, x) :: st) n σ Q :=
  Z_pure (fun p l e R s m args below meth c B b D cA Qf H locs cells slots ls hF hD hL kk => by
    have k2 := kk ls hL
    simp only [List.map_cons, z_rv1, z_rv0] at k2 ⊢
    refine W.lcmp hF.1 hF.2.1 hd ?_
    rw [lz_cmp hx hy]
    exact k2) k
theorem z_cat1 (B b : Nat) {v : ZV} (h : v.1 ≠ 1) : (z_rv B b v).category = 1 := by
  rcases lv_cat (z_rv B b v) with q | q
  · exact q
  · exact absurd (z_cat q) h
theorem Z_dup {v : ZV} (hd : decode M.2.1 pc = .ok (.dup, 1)) (hv : v.1 ≠ 1) (k : Z X ρ M (pc + 1) L (v :: v :: st) n σ Q) : Z X ρ M pc L (v :: st) n σ Q :=
  Z_pure (fun p l e R s m args below meth c B b D cA Qf H locs cells slots ls hF hD hL kk => lv_dup hF.1 hF.2.1 hd (z_cat1 B b hv) (kk ls hL)) k
theorem Z_dup2 {v w : ZV} (hd : decode M.2.1 pc = .ok (.dup2, 1)) (hv : v.1 ≠ 1) (hw : w.1 ≠ 1) (k : Z X ρ M (pc + 1) L (v :: w :: v :: w :: st) n σ Q) : Z X ρ M pc L (v :: w :: st) n σ Q :=
  Z_pure (fun p l e R s m args below meth c B b D cA Qf H locs cells slots ls hF hD hL kk => lv_dup2_11 hF.1 hF.2.1 hd (z_cat1 B b hv) (z_cat1 B b hw) (kk ls hL)) k
theorem Z_goto {off : Int} {tgt : Nat} (hd : decode M.2.1 pc = .ok (.goto off, 3)) (ht : (pc : Int) + off = (tgt : Int)) (k : Z X ρ M tgt L st n σ Q) : Z X ρ M pc L st n σ Q :=
  Z_pure (fun p l e R s m args below meth c B b D cA Qf H locs cells slots ls hF hD hL kk => lv_goto hF.1 hF.2.1 hd ht (kk ls hL)) k
theorem Z_icmp_eq {x y off : Int} {tgt : Nat} (hd : decode M.2.1 pc = .ok (.if_icmp .eq off, 3)) (ht : (pc : Int) + off = (tgt : Int)) (hx : r32 x) (hy : r32 y) (k1 : x = y → Z X ρ M tgt L st n σ Q) (k2 : ¬ (x = y) → Z X ρ M (pc + 3) L st n σ Q) : Z X ρ M pc L ((0, y) :: (0, x) :: st) n σ Q :=
  Z_pure2 (fun p l e R s m args below meth c B b Qf H locs cells slots ls hx0 hb0 a1 a2 => lv_icmp_eq hx0 hb0 hd ht (fun h => a1 ((iz_eq hx hy).mp h)) (fun h => a2 (fun q => h ((iz_eq hx hy).mpr q)))) k1 k2
theorem Z_if_eq {x off : Int} {tgt : Nat} (hd : decode M.2.1 pc = .ok (.ifCond .eq off, 3)) (ht : (pc : Int) + off = (tgt : Int)) (hx : r32 x) (k1 : x = 0 → Z X ρ M tgt L st n σ Q) (k2 : ¬ (x = 0) → Z X ρ M (pc + 3) L st n σ Q) : Z X ρ M pc L ((0, x) :: st) n σ Q :=
  Z_pure2 (fun p l e R s m args below meth c B b Qf H locs cells slots ls hx0 hb0 a1 a2 => lv_if_eq hx0 hb0 hd ht (fun h => a1 ((iz_eq hx r32_0).mp h)) (fun h => a2 (fun q => h ((iz_eq hx r32_0).mpr q)))) k1 k2
theorem Z_icmp_ne {x y off : Int} {tgt : Nat} (hd : decode M.2.1 pc = .ok (.if_icmp .ne off, 3)) (ht : (pc : Int) + off = (tgt : Int)) (hx : r32 x) (hy : r32 y) (k1 : ¬ x = y → Z X ρ M tgt L st n σ Q) (k2 : x = y → Z X ρ M (pc + 3) L st n σ Q) : Z X ρ M pc L ((0, y) :: (0, x) :: st) n σ Q :=
  Z_pure2 (fun p l e R s m args below meth c B b Qf H locs cells slots ls hx0 hb0 a1 a2 => lv_icmp_ne hx0 hb0 hd ht (fun h => a1 (fun q => h ((iz_eq hx hy).mpr q))) (fun h => a2 ((iz_eq hx hy).mp h))) k1 k2
theorem Z_if_ne {x off : Int} {tgt : Nat} (hd : decode M.2.1 pc = .ok (.ifCond .ne off, 3)) (ht : (pc : Int) + off = (tgt : Int)) (hx : r32 x) (k1 : ¬ x = 0 → Z X ρ M tgt L st n σ Q) (k2 : x = 0 → Z X ρ M (pc + 3) L st n σ Q) : Z X ρ M pc L ((0, x) :: st) n σ Q :=
  Z_pure2 (fun p l e R s m args below meth c B b Qf H locs cells slots ls hx0 hb0 a1 a2 => lv_if_ne hx0 hb0 hd ht (fun h => a1 (fun q => h ((iz_eq hx r32_0).mpr q))) (fun h => a2 ((iz_eq hx r32_0).mp h))) k1 k2
theorem Z_icmp_lt {x y off : Int} {tgt : Nat} (hd : decode M.2.1 pc = .ok (.if_icmp .lt off, 3)) (ht : (pc : Int) + off = (tgt : Int)) (hx : r32 x) (hy : r32 y) (k1 : x < y → Z X ρ M tgt L st n σ Q) (k2 : ¬ (x < y) → Z X ρ M (pc + 3) L st n σ Q) : Z X ρ M pc L ((0, y) :: (0, x) :: st) n σ Q :=
  Z_pure2 (fun p l e R s m args below meth c B b Qf H locs cells slots ls hx0 hb0 a1 a2 => lv_icmp_lt hx0 hb0 hd ht (fun h => a1 ((iz_lt hx hy).mp h)) (fun h => a2 (fun q => h ((iz_lt hx hy).mpr q)))) k1 k2
theorem Z_if_lt {x off : Int} {tgt : Nat} (hd : decode M.2.1 pc = .ok (.ifCond .lt off, 3)) (ht : (pc : Int) + off = (tgt : Int)) (hx : r32 x) (k1 : x < 0 → Z X ρ M tgt L st n σ Q) (k2 : ¬ (x < 0) → Z X ρ M (pc + 3) L st n σ Q) : Z X ρ M pc L ((0, x) :: st) n σ Q :=
  Z_pure2 (fun p l e R s m args below meth c B b Qf H locs cells slots ls hx0 hb0 a1 a2 => lv_if_lt hx0 hb0 hd ht (fun h => a1 ((iz_lt hx r32_0).mp h)) (fun h => a2 (fun q => h ((iz_lt hx r32_0).mpr q)))) k1 k2
theorem Z_icmp_ge {x y off : Int} {tgt : Nat} (hd : decode M.2.1 pc = .ok (.if_icmp .ge off, 3)) (ht : (pc : Int) + off = (tgt : Int)) (hx : r32 x) (hy : r32 y) (k1 : y ≤ x → Z X ρ M tgt L st n σ Q) (k2 : ¬ (y ≤ x) → Z X ρ M (pc + 3) L st n σ Q) : Z X ρ M pc L ((0, y) :: (0, x) :: st) n σ Q :=
  Z_pure2 (fun p l e R s m args below meth c B b Qf H locs cells slots ls hx0 hb0 a1 a2 => lv_icmp_ge hx0 hb0 hd ht (fun h => a1 ((iz_le hy hx).mp h)) (fun h => a2 (fun q => h ((iz_le hy hx).mpr q)))) k1 k2
theorem Z_if_ge {x off : Int} {tgt : Nat} (hd : decode M.2.1 pc = .ok (.ifCond .ge off, 3)) (ht : (pc : Int) + off = (tgt : Int)) (hx : r32 x) (k1 : 0 ≤ x → Z X ρ M tgt L st n σ Q) (k2 : ¬ (0 ≤ x) → Z X ρ M (pc + 3) L st n σ Q) : Z X ρ M pc L ((0, x) :: st) n σ Q :=
  Z_pure2 (fun p l e R s m args below meth c B b Qf H locs cells slots ls hx0 hb0 a1 a2 => lv_if_ge hx0 hb0 hd ht (fun h => a1 ((iz_le r32_0 hx).mp h)) (fun h => a2 (fun q => h ((iz_le r32_0 hx).mpr q)))) k1 k2
theorem Z_icmp_gt {x y off : Int} {tgt : Nat} (hd : decode M.2.1 pc = .ok (.if_icmp .gt off, 3)) (ht : (pc : Int) + off = (tgt : Int)) (hx : r32 x) (hy : r32 y) (k1 : y < x → Z X ρ M tgt L st n σ Q) (k2 : ¬ (y < x) → Z X ρ M (pc + 3) L st n σ Q) : Z X ρ M pc L ((0, y) :: (0, x) :: st) n σ Q :=
  Z_pure2 (fun p l e R s m args below meth c B b Qf H locs cells slots ls hx0 hb0 a1 a2 => lv_icmp_gt hx0 hb0 hd ht (fun h => a1 ((iz_lt hy hx).mp h)) (fun h => a2 (fun q => h ((iz_lt hy hx).mpr q)))) k1 k2
theorem Z_if_gt {x off : Int} {tgt : Nat} (hd : decode M.2.1 pc = .ok (.ifCond .gt off, 3)) (ht : (pc : Int) + off = (tgt : Int)) (hx : r32 x) (k1 : 0 < x → Z X ρ M tgt L st n σ Q) (k2 : ¬ (0 < x) → Z X ρ M (pc + 3) L st n σ Q) : Z X ρ M pc L ((0, x) :: st) n σ Q :=
  Z_pure2 (fun p l e R s m args below meth c B b Qf H locs cells slots ls hx0 hb0 a1 a2 => lv_if_gt hx0 hb0 hd ht (fun h => a1 ((iz_lt r32_0 hx).mp h)) (fun h => a2 (fun q => h ((iz_lt r32_0 hx).mpr q)))) k1 k2
theorem Z_icmp_le {x y off : Int} {tgt : Nat} (hd : decode M.2.1 pc = .ok (.if_icmp .le off, 3)) (ht : (pc : Int) + off = (tgt : Int)) (hx : r32 x) (hy : r32 y) (k1 : x ≤ y → Z X ρ M tgt L st n σ Q) (k2 : ¬ (x ≤ y) → Z X ρ M (pc + 3) L st n σ Q) : Z X ρ M pc L ((0, y) :: (0, x) :: st) n σ Q :=
  Z_pure2 (fun p l e R s m args below meth c B b Qf H locs cells slots ls hx0 hb0 a1 a2 => lv_icmp_le hx0 hb0 hd ht (fun h => a1 ((iz_le hx hy).mp h)) (fun h => a2 (fun q => h ((iz_le hx hy).mpr q)))) k1 k2
theorem Z_if_le {x off : Int} {tgt : Nat} (hd : decode M.2.1 pc = .ok (.ifCond .le off, 3)) (ht : (pc : Int) + off = (tgt : Int)) (hx : r32 x) (k1 : x ≤ 0 → Z X ρ M tgt L st n σ Q) (k2 : ¬ (x ≤ 0) → Z X ρ M (pc + 3) L st n σ Q) : Z X ρ M pc L ((0, x) :: st) n σ Q :=
  Z_pure2 (fun p l e R s m args below meth c B b Qf H locs cells slots ls hx0 hb0 a1 a2 => lv_if_le hx0 hb0 hd ht (fun h => a1 ((iz_le hx r32_0).mp h)) (fun h => a2 (fun q => h ((iz_le hx r32_0).mpr q)))) k1 k2
theorem Z_tabIn {x dflt lo hi off : Int} {offs : Array Int} {len tgt : Nat} (hd : decode M.2.1 pc = .ok (.tableswitch dflt lo hi offs, len)) (hx : r32 x) (v : Int) (hv : x = v) (h1 : lo ≤ v) (h2 : v ≤ hi) (ho : offs[(v - lo).toNat]? = some off) (ht : (pc : Int) + off = (tgt : Int)) (k : Z X ρ M tgt L st n σ Q) : Z X ρ M pc L ((0, x) :: st) n σ Q :=
  Z_pure (fun p l e R s m args below meth c B b D cA Qf H locs cells slots ls hF hD hL kk => by
    subst hv
    exact lv_tableIn hF.1 hF.2.1 hd (by rw [iz_toInt hx]; omega) (by rw [iz_toInt hx]; omega) (by rw [iz_toInt hx]; exact ho) ht (kk ls hL)) k
theorem Z_tabOut {x dflt lo hi : Int} {offs : Array Int} {len tgt : Nat} (hd : decode M.2.1 pc = .ok (.tableswitch dflt lo hi offs, len)) (hx : r32 x) (h : x < lo ∨ hi < x) (ht : (pc : Int) + dflt = (tgt : Int)) (k : Z X ρ M tgt L st n σ Q) : Z X ρ M pc L ((0, x) :: st) n σ Q :=
  Z_pure (fun p l e R s m args below meth c B b D cA Qf H locs cells slots ls hF hD hL kk => lv_tableOut hF.1 hF.2.1 hd (by rw [iz_toInt hx]; exact h) ht (kk ls hL)) k
end ZArith
