theorem zb_01 (b : Bool) : zb b = 0 ∨ zb b = 1 := by cases b <;> decide
theorem z_nek {a b : Int} {k m k' m' : Nat} (h : z_l a = (k, m)) (h' : z_l b = (k', m')) (hk : k ≠ k') : a ≠ b := by
  rintro rfl
  rw [h] at h'
  exact hk (by injection h')
theorem z_at {a b : Int} {q : Nat × Nat} (h : z_l a = q) (e : a = b) : z_l b = q := e ▸ h
theorem z_ediv_u {a b c : Int} (hb : 0 < b) (h1 : b * c ≤ a) (h2 : a < b * c + b) : a / b = c := by
  apply Int.le_antisymm
  · have : a / b < c + 1 := Int.ediv_lt_of_lt_mul hb (by rw [Int.add_mul, Int.one_mul, Int.mul_comm]; exact h2)
    omega
  · exact Int.le_ediv_of_mul_le hb (by rw [Int.mul_comm]; exact h1)
theorem z_tdiv_neg {x y : Int} (hx : x < 0) (hy : 0 < y) : ∃ q r : Int, x = -(y * q + r) ∧ 0 ≤ r ∧ r < y ∧ 0 ≤ q ∧ x.tdiv y = -q ∧ x.tmod y = -r := by
  refine ⟨(-x) / y, (-x) % y, ?_, Int.emod_nonneg _ (by omega), Int.emod_lt_of_pos _ hy, Int.ediv_nonneg (by omega) (by omega), ?_, ?_⟩
  · have := Int.mul_ediv_add_emod (-x) y
    omega
  · have h1 : (-x).tdiv y = (-x) / y := Int.tdiv_eq_ediv_of_nonneg (by omega)
    rw [Int.neg_tdiv] at h1
    omega
  · have h1 : (-x).tmod y = (-x) % y := Int.tmod_eq_emod_of_nonneg (by omega)
    rw [Int.neg_tmod] at h1
    omega
theorem bk_J13_signum_95d88 {X : ZS} {n : Nat} {σ : ZM} {T : Int → ZM → Prop} {x0 : Int} (h : (r64 x0) ∧ (r64 (-x0)) ∧ ((if x0 < 0 then -1 else 0) = 0 ∨ (if x0 < 0 then -1 else 0) = -1) ∧ T (if (if x0 < 0 then -1 else 0) = 0 then (if (-x0) < 0 then 1 else 0) else -1) σ) : ZC X (rJ13_signum_95d88 n) mJ13_signum_95d88 [(1, x0)] n σ (zQi T) := by
  show Z X _ _ 0 [(1, x0), (9, 0)] [] _ σ _
  refine Z_lload_n 0 dJ13_signum_95d88_0 rfl rfl ?_
  refine Z_bipush dJ13_signum_95d88_1 (by decide) ?_
  obtain ⟨g1, h⟩ := h
  refine Z_lshr dJ13_signum_95d88_3 g1 ?_
  refine Z_lload_n 0 dJ13_signum_95d88_4 rfl rfl ?_
  refine Z_lneg dJ13_signum_95d88_5 ?_
  refine Z_bipush dJ13_signum_95d88_6 (by decide) ?_
  obtain ⟨g2, h⟩ := h
  refine Z_lushr dJ13_signum_95d88_8 g2 ?_
  obtain ⟨g3, h⟩ := h
  refine Z_lors dJ13_signum_95d88_9 g3 ?_
  refine Z_l2i dJ13_signum_95d88_10 ?_
  exact Z_ireturn dJ13_signum_95d88_11 rfl rfl ⟨rfl, h⟩

theorem bk_J9_floorDiv_f86c9 {X : ZS} {n : Nat} {σ : ZM} {T : Int → ZM → Prop} {x0 : Int} {x2 : Int} (h : (r64 x0) ∧ (r64 x2) ∧ (x2 ≠ 0) ∧ (∀ z4 : Int, r64 z4 → (z4 < 0 ↔ ¬ (x0 < 0 ↔ x2 < 0)) → ((0 ≤ z4) → T (Int.tdiv x0 x2) σ) ∧ ((¬ (0 ≤ z4)) → (r64 ((Int.tdiv x0 x2) * x2)) ∧ ((((Int.tdiv x0 x2) * x2) = x0) → T (Int.tdiv x0 x2) σ) ∧ ((¬ ((Int.tdiv x0 x2) * x2) = x0) → T ((Int.tdiv x0 x2) - 1) σ)))) : ZC X (rJ9_floorDiv_f86c9 n) mJ9_floorDiv_f86c9 [(1, x0), (1, x2)] n σ (zQl T) := by
  show Z X _ _ 0 [(1, x0), (9, 0), (1, x2), (9, 0), (9, 0), (9, 0)] [] _ σ _
  refine Z_lload_n 0 dJ9_floorDiv_f86c9_0 rfl rfl ?_
  refine Z_lload_n 2 dJ9_floorDiv_f86c9_1 rfl rfl ?_
  obtain ⟨g1, h⟩ := h
  obtain ⟨g2, h⟩ := h
  obtain ⟨g3, h⟩ := h
  refine Z_ldiv dJ9_floorDiv_f86c9_2 g1 g2 g3 ?_
  refine Z_lstore (L' := [(1, x0), (9, 0), (1, x2), (9, 0), (1, (Int.tdiv x0 x2)), (9, 0)]) dJ9_floorDiv_f86c9_3 (Nat.le_of_ble_eq_true rfl) rfl ?_
  refine Z_lload_n 0 dJ9_floorDiv_f86c9_5 rfl rfl ?_
  refine Z_lload_n 2 dJ9_floorDiv_f86c9_6 rfl rfl ?_
  refine Z_lxor dJ9_floorDiv_f86c9_7 g1 g2 (fun z4 hz4a hz4b => ?_)
  have h := h z4 hz4a hz4b
  refine Z_lconst (x := 0) dJ9_floorDiv_f86c9_8 rfl ?_
  refine Z_lc_ge (tgt := 27) dJ9_floorDiv_f86c9_9 dJ9_floorDiv_f86c9_10 (by decide) hz4a ⟨by decide, by decide⟩ (fun c => ?_) (fun c => ?_)
  · have h := h.1 c
    refine Z_lload dJ9_floorDiv_f86c9_27 rfl ?_
    exact Z_lreturn dJ9_floorDiv_f86c9_29 rfl rfl ⟨rfl, h⟩
  · have h := h.2 c
    refine Z_lload dJ9_floorDiv_f86c9_13 rfl ?_
    refine Z_lload_n 2 dJ9_floorDiv_f86c9_15 rfl rfl ?_
    refine Z_lmul dJ9_floorDiv_f86c9_16 ?_
    refine Z_lload_n 0 dJ9_floorDiv_f86c9_17 rfl rfl ?_
    obtain ⟨g5, h⟩ := h
    refine Z_lc_eq (tgt := 27) dJ9_floorDiv_f86c9_18 dJ9_floorDiv_f86c9_19 (by decide) g5 g1 (fun c => ?_) (fun c => ?_)
    · have h := h.1 c
      refine Z_lload dJ9_floorDiv_f86c9_27 rfl ?_
      exact Z_lreturn dJ9_floorDiv_f86c9_29 rfl rfl ⟨rfl, h⟩
    · have h := h.2 c
      refine Z_lload dJ9_floorDiv_f86c9_22 rfl ?_
      refine Z_lconst (x := 1) dJ9_floorDiv_f86c9_24 rfl ?_
      refine Z_lsub dJ9_floorDiv_f86c9_25 ?_
      exact Z_lreturn dJ9_floorDiv_f86c9_26 rfl rfl ⟨rfl, h⟩

theorem bk_J9_floorMod_f86c9 {X : ZS} {n : Nat} {σ : ZM} {T : Int → ZM → Prop} {x0 : Int} {x2 : Int} (h : (r64 x0) ∧ (r64 x2) ∧ (x2 ≠ 0) ∧ (∀ z4 : Int, r64 z4 → (z4 < 0 ↔ ¬ (x0 < 0 ↔ x2 < 0)) → ((0 ≤ z4) → T (Int.tmod x0 x2) σ) ∧ ((¬ (0 ≤ z4)) → (r64 (Int.tmod x0 x2)) ∧ (((Int.tmod x0 x2) = 0) → T (Int.tmod x0 x2) σ) ∧ ((¬ (Int.tmod x0 x2) = 0) → T ((Int.tmod x0 x2) + x2) σ)))) : ZC X (rJ9_floorMod_f86c9 n) mJ9_floorMod_f86c9 [(1, x0), (1, x2)] n σ (zQl T) := by
  show Z X _ _ 0 [(1, x0), (9, 0), (1, x2), (9, 0), (9, 0), (9, 0)] [] _ σ _
  refine Z_lload_n 0 dJ9_floorMod_f86c9_0 rfl rfl ?_
  refine Z_lload_n 2 dJ9_floorMod_f86c9_1 rfl rfl ?_
  obtain ⟨g1, h⟩ := h
  obtain ⟨g2, h⟩ := h
  obtain ⟨g3, h⟩ := h
  refine Z_lrem dJ9_floorMod_f86c9_2 g1 g2 g3 ?_
  refine Z_lstore (L' := [(1, x0), (9, 0), (1, x2), (9, 0), (1, (Int.tmod x0 x2)), (9, 0)]) dJ9_floorMod_f86c9_3 (Nat.le_of_ble_eq_true rfl) rfl ?_
  refine Z_lload_n 0 dJ9_floorMod_f86c9_5 rfl rfl ?_
  refine Z_lload_n 2 dJ9_floorMod_f86c9_6 rfl rfl ?_
  refine Z_lxor dJ9_floorMod_f86c9_7 g1 g2 (fun z4 hz4a hz4b => ?_)
  have h := h z4 hz4a hz4b
  refine Z_lconst (x := 0) dJ9_floorMod_f86c9_8 rfl ?_
  refine Z_lc_ge (tgt := 25) dJ9_floorMod_f86c9_9 dJ9_floorMod_f86c9_10 (by decide) hz4a ⟨by decide, by decide⟩ (fun c => ?_) (fun c => ?_)
  · have h := h.1 c
    refine Z_lload dJ9_floorMod_f86c9_25 rfl ?_
    exact Z_lreturn dJ9_floorMod_f86c9_27 rfl rfl ⟨rfl, h⟩
  · have h := h.2 c
    refine Z_lload dJ9_floorMod_f86c9_13 rfl ?_
    refine Z_lconst (x := 0) dJ9_floorMod_f86c9_15 rfl ?_
    obtain ⟨g5, h⟩ := h
    refine Z_lc_eq (tgt := 25) dJ9_floorMod_f86c9_16 dJ9_floorMod_f86c9_17 (by decide) g5 ⟨by decide, by decide⟩ (fun c => ?_) (fun c => ?_)
    · have h := h.1 c
      refine Z_lload dJ9_floorMod_f86c9_25 rfl ?_
      exact Z_lreturn dJ9_floorMod_f86c9_27 rfl rfl ⟨rfl, h⟩
    · have h := h.2 c
      refine Z_lload dJ9_floorMod_f86c9_20 rfl ?_
      refine Z_lload_n 2 dJ9_floorMod_f86c9_22 rfl rfl ?_
      refine Z_ladd dJ9_floorMod_f86c9_23 ?_
      exact Z_lreturn dJ9_floorMod_f86c9_24 rfl rfl ⟨rfl, h⟩

theorem bk_J9_abs_0f7a4 {X : ZS} {n : Nat} {σ : ZM} {T : Int → ZM → Prop} {x0 : Int} (h : (r32 x0) ∧ ((0 ≤ x0) → T x0 σ) ∧ ((¬ (0 ≤ x0)) → T (-x0) σ)) : ZC X (rJ9_abs_0f7a4 n) mJ9_abs_0f7a4 [(0, x0)] n σ (zQi T) := by
  show Z X _ _ 0 [(0, x0)] [] _ σ _
  refine Z_iload_n 0 dJ9_abs_0f7a4_0 rfl rfl ?_
  obtain ⟨g1, h⟩ := h
  refine Z_if_ge (tgt := 9) dJ9_abs_0f7a4_1 (by decide) g1 (fun c => ?_) (fun c => ?_)
  · have h := h.1 c
    refine Z_iload_n 0 dJ9_abs_0f7a4_9 rfl rfl ?_
    exact Z_ireturn dJ9_abs_0f7a4_10 rfl rfl ⟨rfl, h⟩
  · have h := h.2 c
    refine Z_iload_n 0 dJ9_abs_0f7a4_4 rfl rfl ?_
    refine Z_ineg dJ9_abs_0f7a4_5 ?_
    refine Z_goto (tgt := 10) dJ9_abs_0f7a4_6 (by decide) ?_
    exact Z_ireturn dJ9_abs_0f7a4_10 rfl rfl ⟨rfl, h⟩

theorem bk_J9_abs_067f4 {X : ZS} {n : Nat} {σ : ZM} {T : Int → ZM → Prop} {x0 : Int} (h : (r64 x0) ∧ ((0 ≤ x0) → T x0 σ) ∧ ((¬ (0 ≤ x0)) → T (-x0) σ)) : ZC X (rJ9_abs_067f4 n) mJ9_abs_067f4 [(1, x0)] n σ (zQl T) := by
  show Z X _ _ 0 [(1, x0), (9, 0)] [] _ σ _
  refine Z_lload_n 0 dJ9_abs_067f4_0 rfl rfl ?_
  refine Z_lconst (x := 0) dJ9_abs_067f4_1 rfl ?_
  obtain ⟨g1, h⟩ := h
  refine Z_lc_ge (tgt := 11) dJ9_abs_067f4_2 dJ9_abs_067f4_3 (by decide) g1 ⟨by decide, by decide⟩ (fun c => ?_) (fun c => ?_)
  · have h := h.1 c
    refine Z_lload_n 0 dJ9_abs_067f4_11 rfl rfl ?_
    exact Z_lreturn dJ9_abs_067f4_12 rfl rfl ⟨rfl, h⟩
  · have h := h.2 c
    refine Z_lload_n 0 dJ9_abs_067f4_6 rfl rfl ?_
    refine Z_lneg dJ9_abs_067f4_7 ?_
    refine Z_goto (tgt := 12) dJ9_abs_067f4_8 (by decide) ?_
    exact Z_lreturn dJ9_abs_067f4_12 rfl rfl ⟨rfl, h⟩

theorem bk_J9_max_7cf53 {X : ZS} {n : Nat} {σ : ZM} {T : Int → ZM → Prop} {x0 : Int} {x1 : Int} (h : (r32 x0) ∧ (r32 x1) ∧ ((x0 < x1) → T x1 σ) ∧ ((¬ (x0 < x1)) → T x0 σ)) : ZC X (rJ9_max_7cf53 n) mJ9_max_7cf53 [(0, x0), (0, x1)] n σ (zQi T) := by
  show Z X _ _ 0 [(0, x0), (0, x1)] [] _ σ _
  refine Z_iload_n 0 dJ9_max_7cf53_0 rfl rfl ?_
  refine Z_iload_n 1 dJ9_max_7cf53_1 rfl rfl ?_
  obtain ⟨g1, h⟩ := h
  obtain ⟨g2, h⟩ := h
  refine Z_icmp_lt (tgt := 9) dJ9_max_7cf53_2 (by decide) g1 g2 (fun c => ?_) (fun c => ?_)
  · have h := h.1 c
    refine Z_iload_n 1 dJ9_max_7cf53_9 rfl rfl ?_
    exact Z_ireturn dJ9_max_7cf53_10 rfl rfl ⟨rfl, h⟩
  · have h := h.2 c
    refine Z_iload_n 0 dJ9_max_7cf53_5 rfl rfl ?_
    refine Z_goto (tgt := 10) dJ9_max_7cf53_6 (by decide) ?_
    exact Z_ireturn dJ9_max_7cf53_10 rfl rfl ⟨rfl, h⟩

theorem bk_J9_min_7cf53 {X : ZS} {n : Nat} {σ : ZM} {T : Int → ZM → Prop} {x0 : Int} {x1 : Int} (h : (r32 x0) ∧ (r32 x1) ∧ ((x1 < x0) → T x1 σ) ∧ ((¬ (x1 < x0)) → T x0 σ)) : ZC X (rJ9_min_7cf53 n) mJ9_min_7cf53 [(0, x0), (0, x1)] n σ (zQi T) := by
  show Z X _ _ 0 [(0, x0), (0, x1)] [] _ σ _
  refine Z_iload_n 0 dJ9_min_7cf53_0 rfl rfl ?_
  refine Z_iload_n 1 dJ9_min_7cf53_1 rfl rfl ?_
  obtain ⟨g1, h⟩ := h
  obtain ⟨g2, h⟩ := h
  refine Z_icmp_gt (tgt := 9) dJ9_min_7cf53_2 (by decide) g1 g2 (fun c => ?_) (fun c => ?_)
  · have h := h.1 c
    refine Z_iload_n 1 dJ9_min_7cf53_9 rfl rfl ?_
    exact Z_ireturn dJ9_min_7cf53_10 rfl rfl ⟨rfl, h⟩
  · have h := h.2 c
    refine Z_iload_n 0 dJ9_min_7cf53_5 rfl rfl ?_
    refine Z_goto (tgt := 10) dJ9_min_7cf53_6 (by decide) ?_
    exact Z_ireturn dJ9_min_7cf53_10 rfl rfl ⟨rfl, h⟩


theorem c_jmax {X : ZS} {n : Nat} {σ : ZM} {T : Int → ZM → Prop} {x y : Int} (hx : r32 x) (hy : r32 y) (h : T (max x y) σ) : ZC X (rJ9_max_7cf53 n) mJ9_max_7cf53 [(0, x), (0, y)] n σ (zQi T) := by
  refine bk_J9_max_7cf53 ⟨hx, hy, fun c => ?_, fun c => ?_⟩
  · rwa [show max x y = y by omega] at h
  · rwa [show max x y = x by omega] at h
theorem c_jmin {X : ZS} {n : Nat} {σ : ZM} {T : Int → ZM → Prop} {x y : Int} (hx : r32 x) (hy : r32 y) (h : T (min x y) σ) : ZC X (rJ9_min_7cf53 n) mJ9_min_7cf53 [(0, x), (0, y)] n σ (zQi T) := by
  refine bk_J9_min_7cf53 ⟨hx, hy, fun c => ?_, fun c => ?_⟩
  · rwa [show min x y = y by omega] at h
  · rwa [show min x y = x by omega] at h
theorem c_jabs {X : ZS} {n : Nat} {σ : ZM} {T : Int → ZM → Prop} {x y : Int} (hx : r32 x) (hm : x ≠ -2147483648) (h : T ((x.natAbs : Nat) : Int) σ) : ZC X (rJ9_abs_0f7a4 n) mJ9_abs_0f7a4 [(0, x)] n σ (zQi T) := by
  refine bk_J9_abs_0f7a4 ⟨hx, fun c => ?_, fun c => ?_⟩
  · rwa [show ((x.natAbs : Nat) : Int) = x by omega] at h
  · rwa [show ((x.natAbs : Nat) : Int) = -x by omega] at h
theorem c_jabsl {X : ZS} {n : Nat} {σ : ZM} {T : Int → ZM → Prop} {x y : Int} (hx : r64 x) (hm : x ≠ -9223372036854775808) (h : T ((x.natAbs : Nat) : Int) σ) : ZC X (rJ9_abs_067f4 n) mJ9_abs_067f4 [(1, x)] n σ (zQl T) := by
  refine bk_J9_abs_067f4 ⟨hx, fun c => ?_, fun c => ?_⟩
  · rwa [show ((x.natAbs : Nat) : Int) = x by omega] at h
  · rwa [show ((x.natAbs : Nat) : Int) = -x by omega] at h
theorem c_jsgn {X : ZS} {n : Nat} {σ : ZM} {T : Int → ZM → Prop} {x y : Int} (hx : r64 x) (hm : x ≠ -9223372036854775808) (h : T (if x < 0 then -1 else if 0 < x then 1 else 0) σ) : ZC X (rJ13_signum_95d88 n) mJ13_signum_95d88 [(1, x)] n σ (zQi T) := by
  refine bk_J13_signum_95d88 ⟨hx, ⟨by omega, by omega⟩, by split <;> simp, ?_⟩
  have e : (if (if x < 0 then (-1 : Int) else 0) = 0 then (if (-x) < 0 then 1 else 0) else -1) = (if x < 0 then -1 else if 0 < x then 1 else 0) := by
    by_cases h1 : x < 0
    · simp [h1]
    · by_cases h2 : 0 < x
      · simp [h1, h2]
      · simp [h1, h2]
  rw [e]
  exact h
theorem c_jfd {X : ZS} {n : Nat} {σ : ZM} {T : Int → ZM → Prop} {x y : Int} (hx : r64 x) (hy : r64 y) (h0 : 0 < y) (h : T (x / y) σ) : ZC X (rJ9_floorDiv_f86c9 n) mJ9_floorDiv_f86c9 [(1, x), (1, y)] n σ (zQl T) := by
  refine bk_J9_floorDiv_f86c9 ⟨hx, hy, by omega, fun z hz hs => ⟨fun c => ?_, fun c => ?_⟩⟩
  · have hx0 : ¬ x < 0 := fun q => by
      have := hs.mpr (fun w => absurd (w.mp q) (by omega))
      omega
    rwa [Int.tdiv_eq_ediv_of_nonneg (by omega)]
  · have hx0 : x < 0 := by
      have := hs.mp (by omega)
      apply Classical.byContradiction
      intro q
      exact this ⟨fun w => absurd w q, fun w => by omega⟩
    obtain ⟨q, r, e1, e2, e3, e4, e5, e6⟩ := z_tdiv_neg hx0 h0
    have hb : y * q = q * y := Int.mul_comm _ _
    rw [e5]
    have e7 : -q * y = -(y * q) := by rw [Int.neg_mul, hb]
    refine ⟨by rw [e7]; omega, fun c2 => ?_, fun c2 => ?_⟩
    · rw [z_ediv_u (c := -q) h0 (by rw [Int.mul_neg]; omega) (by rw [Int.mul_neg]; omega)] at h
      exact h
    · have : r ≠ 0 := by
        intro w
        apply c2
        rw [e7]; omega
      rw [z_ediv_u (c := -q - 1) h0 (by rw [Int.mul_sub, Int.mul_neg]; omega) (by rw [Int.mul_sub, Int.mul_neg]; omega)] at h
      exact h
theorem c_jfm {X : ZS} {n : Nat} {σ : ZM} {T : Int → ZM → Prop} {x y : Int} (hx : r64 x) (hy : r64 y) (h0 : 0 < y) (h : T (x % y) σ) : ZC X (rJ9_floorMod_f86c9 n) mJ9_floorMod_f86c9 [(1, x), (1, y)] n σ (zQl T) := by
  have hmod := Int.emod_def x y
  refine bk_J9_floorMod_f86c9 ⟨hx, hy, by omega, fun z hz hs => ⟨fun c => ?_, fun c => ?_⟩⟩
  · have hx0 : ¬ x < 0 := fun q => by
      have := hs.mpr (fun w => absurd (w.mp q) (by omega))
      omega
    rwa [Int.tmod_eq_emod_of_nonneg (by omega)]
  · have hx0 : x < 0 := by
      have := hs.mp (by omega)
      apply Classical.byContradiction
      intro q
      exact this ⟨fun w => absurd w q, fun w => by omega⟩
    obtain ⟨q, r, e1, e2, e3, e4, e5, e6⟩ := z_tdiv_neg hx0 h0
    rw [e6]
    refine ⟨⟨by have := hy.2; omega, by have := hy.2; omega⟩, fun c2 => ?_, fun c2 => ?_⟩
    · rw [hmod, z_ediv_u (c := -q) h0 (by rw [Int.mul_neg]; omega) (by rw [Int.mul_neg]; omega), Int.mul_neg, show x - -(y * q) = -r by omega] at h
      exact h
    · rw [hmod, z_ediv_u (c := -q - 1) h0 (by rw [Int.mul_sub, Int.mul_neg]; omega) (by rw [Int.mul_sub, Int.mul_neg]; omega), Int.mul_sub, Int.mul_neg, Int.mul_one, show x - (-(y * q) - y) = -r + y by omega] at h
      exact h
section ZJ
variable {X : ZS} {ρ : ZR} {M : ZT} {pc : Nat} {L st : List ZV} {n : Nat} {σ : ZM} {Q : ZV → ZM → Prop}
theorem Z_jmax {idx : Nat} {x y : Int} (hd : decode M.2.1 pc = .ok (.invokestatic idx, 3)) (hw : Cond.methodLink M.1.cls idx yJ9_max_7cf53 ∈ z_us ∨ ∃ host, Cond.methodLinkNest M.1.cls idx yJ9_max_7cf53 host ∈ z_us) (hx : r32 x) (hy : r32 y) (h4 : n ≤ ρ.2.2) (h1 : (rJ9_max_7cf53 n).1 + 1 ≤ ρ.1) (h2 : 8 + (mJ9_max_7cf53.2.2.1 + 11) + (rJ9_max_7cf53 n).2.1 ≤ ρ.2.1) (h3 : (st.map (fun v => if v.1 = 1 then 2 else 1)).sum ≤ 8) (k : Z X ρ M (pc + 3) L ((0, (max x y)) :: st) n σ Q) : Z X ρ M pc L ((0, y) :: (0, x) :: st) n σ Q :=
  Z_invS (M' := mJ9_max_7cf53) (ρ' := rJ9_max_7cf53 n) (st := st) [(0, x), (0, y)] hd rfl rfl (kJ9_max_7cf53.cl (Nat.le_of_ble_eq_true rfl) (Nat.le_refl _) h4 h1 h2 h3) hw sJ9_max_7cf53 (c_jmax (T := fun r s => r = (max x y) ∧ s = σ) hx hy ⟨rfl, rfl⟩) (z_ki (fun r s h => by rw [h.1, h.2]; exact k))
theorem Z_jmin {idx : Nat} {x y : Int} (hd : decode M.2.1 pc = .ok (.invokestatic idx, 3)) (hw : Cond.methodLink M.1.cls idx yJ9_min_7cf53 ∈ z_us ∨ ∃ host, Cond.methodLinkNest M.1.cls idx yJ9_min_7cf53 host ∈ z_us) (hx : r32 x) (hy : r32 y) (h4 : n ≤ ρ.2.2) (h1 : (rJ9_min_7cf53 n).1 + 1 ≤ ρ.1) (h2 : 8 + (mJ9_min_7cf53.2.2.1 + 11) + (rJ9_min_7cf53 n).2.1 ≤ ρ.2.1) (h3 : (st.map (fun v => if v.1 = 1 then 2 else 1)).sum ≤ 8) (k : Z X ρ M (pc + 3) L ((0, (min x y)) :: st) n σ Q) : Z X ρ M pc L ((0, y) :: (0, x) :: st) n σ Q :=
  Z_invS (M' := mJ9_min_7cf53) (ρ' := rJ9_min_7cf53 n) (st := st) [(0, x), (0, y)] hd rfl rfl (kJ9_min_7cf53.cl (Nat.le_of_ble_eq_true rfl) (Nat.le_refl _) h4 h1 h2 h3) hw sJ9_min_7cf53 (c_jmin (T := fun r s => r = (min x y) ∧ s = σ) hx hy ⟨rfl, rfl⟩) (z_ki (fun r s h => by rw [h.1, h.2]; exact k))
theorem Z_jabs {idx : Nat} {x : Int} (hd : decode M.2.1 pc = .ok (.invokestatic idx, 3)) (hw : Cond.methodLink M.1.cls idx yJ9_abs_0f7a4 ∈ z_us ∨ ∃ host, Cond.methodLinkNest M.1.cls idx yJ9_abs_0f7a4 host ∈ z_us) (hx : r32 x) (hm : x ≠ -2147483648) (h4 : n ≤ ρ.2.2) (h1 : (rJ9_abs_0f7a4 n).1 + 1 ≤ ρ.1) (h2 : 8 + (mJ9_abs_0f7a4.2.2.1 + 11) + (rJ9_abs_0f7a4 n).2.1 ≤ ρ.2.1) (h3 : (st.map (fun v => if v.1 = 1 then 2 else 1)).sum ≤ 8) (k : Z X ρ M (pc + 3) L ((0, ((x.natAbs : Nat) : Int)) :: st) n σ Q) : Z X ρ M pc L ((0, x) :: st) n σ Q :=
  Z_invS (M' := mJ9_abs_0f7a4) (ρ' := rJ9_abs_0f7a4 n) (st := st) [(0, x)] hd rfl rfl (kJ9_abs_0f7a4.cl (Nat.le_of_ble_eq_true rfl) (Nat.le_refl _) h4 h1 h2 h3) hw sJ9_abs_0f7a4 (c_jabs (T := fun r s => r = ((x.natAbs : Nat) : Int) ∧ s = σ) hx hm (y := 0) ⟨rfl, rfl⟩) (z_ki (fun r s h => by rw [h.1, h.2]; exact k))
theorem Z_jabsl {idx : Nat} {x : Int} (hd : decode M.2.1 pc = .ok (.invokestatic idx, 3)) (hw : Cond.methodLink M.1.cls idx yJ9_abs_067f4 ∈ z_us ∨ ∃ host, Cond.methodLinkNest M.1.cls idx yJ9_abs_067f4 host ∈ z_us) (hx : r64 x) (hm : x ≠ -9223372036854775808) (h4 : n ≤ ρ.2.2) (h1 : (rJ9_abs_067f4 n).1 + 1 ≤ ρ.1) (h2 : 8 + (mJ9_abs_067f4.2.2.1 + 11) + (rJ9_abs_067f4 n).2.1 ≤ ρ.2.1) (h3 : (st.map (fun v => if v.1 = 1 then 2 else 1)).sum ≤ 8) (k : Z X ρ M (pc + 3) L ((1, ((x.natAbs : Nat) : Int)) :: st) n σ Q) : Z X ρ M pc L ((1, x) :: st) n σ Q :=
  Z_invS (M' := mJ9_abs_067f4) (ρ' := rJ9_abs_067f4 n) (st := st) [(1, x)] hd rfl rfl (kJ9_abs_067f4.cl (Nat.le_of_ble_eq_true rfl) (Nat.le_refl _) h4 h1 h2 h3) hw sJ9_abs_067f4 (c_jabsl (T := fun r s => r = ((x.natAbs : Nat) : Int) ∧ s = σ) hx hm (y := 0) ⟨rfl, rfl⟩) (z_kl (fun r s h => by rw [h.1, h.2]; exact k))
theorem Z_jsgn {idx : Nat} {x : Int} (hd : decode M.2.1 pc = .ok (.invokestatic idx, 3)) (hw : Cond.methodLink M.1.cls idx yJ13_signum_95d88 ∈ z_us ∨ ∃ host, Cond.methodLinkNest M.1.cls idx yJ13_signum_95d88 host ∈ z_us) (hx : r64 x) (hm : x ≠ -9223372036854775808) (h4 : n ≤ ρ.2.2) (h1 : (rJ13_signum_95d88 n).1 + 1 ≤ ρ.1) (h2 : 8 + (mJ13_signum_95d88.2.2.1 + 11) + (rJ13_signum_95d88 n).2.1 ≤ ρ.2.1) (h3 : (st.map (fun v => if v.1 = 1 then 2 else 1)).sum ≤ 8) (k : Z X ρ M (pc + 3) L ((0, (if x < 0 then -1 else if 0 < x then 1 else 0)) :: st) n σ Q) : Z X ρ M pc L ((1, x) :: st) n σ Q :=
  Z_invS (M' := mJ13_signum_95d88) (ρ' := rJ13_signum_95d88 n) (st := st) [(1, x)] hd rfl rfl (kJ13_signum_95d88.cl (Nat.le_of_ble_eq_true rfl) (Nat.le_refl _) h4 h1 h2 h3) hw sJ13_signum_95d88 (c_jsgn (T := fun r s => r = (if x < 0 then -1 else if 0 < x then 1 else 0) ∧ s = σ) hx hm (y := 0) ⟨rfl, rfl⟩) (z_ki (fun r s h => by rw [h.1, h.2]; exact k))
theorem Z_jfd {idx : Nat} {x y : Int} (hd : decode M.2.1 pc = .ok (.invokestatic idx, 3)) (hw : Cond.methodLink M.1.cls idx yJ9_floorDiv_f86c9 ∈ z_us ∨ ∃ host, Cond.methodLinkNest M.1.cls idx yJ9_floorDiv_f86c9 host ∈ z_us) (hx : r64 x) (hy : r64 y) (h0 : 0 < y) (h4 : n ≤ ρ.2.2) (h1 : (rJ9_floorDiv_f86c9 n).1 + 1 ≤ ρ.1) (h2 : 8 + (mJ9_floorDiv_f86c9.2.2.1 + 11) + (rJ9_floorDiv_f86c9 n).2.1 ≤ ρ.2.1) (h3 : (st.map (fun v => if v.1 = 1 then 2 else 1)).sum ≤ 8) (k : Z X ρ M (pc + 3) L ((1, (x / y)) :: st) n σ Q) : Z X ρ M pc L ((1, y) :: (1, x) :: st) n σ Q :=
  Z_invS (M' := mJ9_floorDiv_f86c9) (ρ' := rJ9_floorDiv_f86c9 n) (st := st) [(1, x), (1, y)] hd rfl rfl (kJ9_floorDiv_f86c9.cl (Nat.le_of_ble_eq_true rfl) (Nat.le_refl _) h4 h1 h2 h3) hw sJ9_floorDiv_f86c9 (c_jfd (T := fun r s => r = (x / y) ∧ s = σ) hx hy h0 ⟨rfl, rfl⟩) (z_kl (fun r s h => by rw [h.1, h.2]; exact k))
theorem Z_jfm {idx : Nat} {x y : Int} (hd : decode M.2.1 pc = .ok (.invokestatic idx, 3)) (hw : Cond.methodLink M.1.cls idx yJ9_floorMod_f86c9 ∈ z_us ∨ ∃ host, Cond.methodLinkNest M.1.cls idx yJ9_floorMod_f86c9 host ∈ z_us) (hx : r64 x) (hy : r64 y) (h0 : 0 < y) (h4 : n ≤ ρ.2.2) (h1 : (rJ9_floorMod_f86c9 n).1 + 1 ≤ ρ.1) (h2 : 8 + (mJ9_floorMod_f86c9.2.2.1 + 11) + (rJ9_floorMod_f86c9 n).2.1 ≤ ρ.2.1) (h3 : (st.map (fun v => if v.1 = 1 then 2 else 1)).sum ≤ 8) (k : Z X ρ M (pc + 3) L ((1, (x % y)) :: st) n σ Q) : Z X ρ M pc L ((1, y) :: (1, x) :: st) n σ Q :=
  Z_invS (M' := mJ9_floorMod_f86c9) (ρ' := rJ9_floorMod_f86c9 n) (st := st) [(1, x), (1, y)] hd rfl rfl (kJ9_floorMod_f86c9.cl (Nat.le_of_ble_eq_true rfl) (Nat.le_refl _) h4 h1 h2 h3) hw sJ9_floorMod_f86c9 (c_jfm (T := fun r s => r = (x % y) ∧ s = σ) hx hy h0 ⟨rfl, rfl⟩) (z_kl (fun r s h => by rw [h.1, h.2]; exact k))
end ZJ
