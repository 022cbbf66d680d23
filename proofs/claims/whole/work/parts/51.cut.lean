theorem iz_self (x : Int) : iz (x.bmod 4294967296) = iz x := by
  rw [← Int32.toInt_inj, iz_bmod, iz_bmod]
  exact Int.bmod_bmod_of_dvd (Nat.dvd_refl _)
theorem Z_l2im {X : ZS} {ρ : ZR} {M : ZT} {pc : Nat} {L st : List ZV} {n : Nat} {σ : ZM} {Q : ZV → ZM → Prop} {x : Int} (hd : decode M.2.1 pc = .ok (.l2i, 1)) (k : Z X ρ M (pc + 1) L ((0, x.bmod 4294967296) :: st) n σ Q) : Z X ρ M pc L ((1, x) :: st) n σ Q :=
  Z_pure (fun p l e R s m args below meth c B b D cA Qf H locs cells slots ls hF hD hL kk => lv_l2i hF.1 hF.2.1 hd ((lz_l2i x).trans (iz_self x).symm) (kk ls hL)) k
theorem bk2_X8_cut {X : ZS} {σ : ZM} {T : Int → ZM → Prop} {x0 : Int} {x2 : Int} (h : (r32 x2) ∧ ((x2 = 0) → (r32 (Int.bmod (Int.bmod x0 4294967296) 256)) ∧ T (Int.bmod (Int.bmod x0 4294967296) 256) σ) ∧ ((x2 = 1) → (r32 (Int.bmod (Int.bmod x0 4294967296) 65536)) ∧ T (Int.bmod (Int.bmod x0 4294967296) 65536) σ) ∧ ((x2 = 2) → (r32 (Int.bmod x0 4294967296)) ∧ T (Int.bmod x0 4294967296) σ) ∧ ((x2 < 0 ∨ 2 < x2) → T x0 σ)) : ZC X (rX8_cut zN) mX8_cut [(1, x0), (0, x2)] zN σ (zQl T) := by
  show Z X _ _ 0 [(1, x0), (9, 0), (0, x2)] [] _ σ _
  refine Z_iload_n 2 dX8_cut_0 rfl rfl ?_
  obtain ⟨g1, h⟩ := h
  by_cases c0 : x2 = 0
  · replace h := h.1 c0
    refine Z_tabIn (tgt := 28) dX8_cut_1 g1 0 c0 (by decide) (by decide) rfl (by decide) ?_
    refine Z_lload_n 0 dX8_cut_28 rfl rfl ?_
    refine Z_l2im dX8_cut_29 ?_
    refine Z_i2b dX8_cut_30 ?_
    obtain ⟨g2, h⟩ := h
    refine Z_i2l dX8_cut_31 g2 ?_
    exact Z_lreturn dX8_cut_32 rfl rfl ⟨rfl, h⟩
  replace h := h.2
  by_cases c1 : x2 = 1
  · replace h := h.1 c1
    refine Z_tabIn (tgt := 33) dX8_cut_1 g1 1 c1 (by decide) (by decide) rfl (by decide) ?_
    refine Z_lload_n 0 dX8_cut_33 rfl rfl ?_
    refine Z_l2im dX8_cut_34 ?_
    refine Z_i2s dX8_cut_35 ?_
    obtain ⟨g3, h⟩ := h
    refine Z_i2l dX8_cut_36 g3 ?_
    exact Z_lreturn dX8_cut_37 rfl rfl ⟨rfl, h⟩
  replace h := h.2
  by_cases c2 : x2 = 2
  · replace h := h.1 c2
    refine Z_tabIn (tgt := 38) dX8_cut_1 g1 2 c2 (by decide) (by decide) rfl (by decide) ?_
    refine Z_lload_n 0 dX8_cut_38 rfl rfl ?_
    refine Z_l2im dX8_cut_39 ?_
    obtain ⟨g4, h⟩ := h
    refine Z_i2l dX8_cut_40 g4 ?_
    exact Z_lreturn dX8_cut_41 rfl rfl ⟨rfl, h⟩
  replace h := h.2
  have cO := z_sw2 c0 c1 c2
  replace h := h cO
  refine Z_tabOut (tgt := 42) dX8_cut_1 g1 cO (by decide) ?_
  refine Z_lload_n 0 dX8_cut_42 rfl rfl ?_
  exact Z_lreturn dX8_cut_43 rfl rfl ⟨rfl, h⟩

theorem bk2_X12_write {X : ZS} {σ : ZM} {T : Int → ZM → Prop} {x1 : Int} {x2 : Int} {x3 : Int} (h : ZC X (rX12_isSlot zN) mX12_isSlot [(0, x1)] zN σ (zQz (fun r1 σ2 => ((r1 = true) → (Fix σ2) ∧ (0 ≤ x1) ∧ (x1 < 8) ∧ (r32 (σ2 213 x1)) ∧ ((¬ (σ2 213 x1) = 0) → (r32 x2) ∧ ((x2 < 0) → T (-6) σ2) ∧ ((¬ (x2 < 0)) → (r32 ((σ2 213 x1) - 1)) ∧ ((x2 < ((σ2 213 x1) - 1)) → (r32 (σ2 214 x1)) ∧ ((¬ (σ2 214 x1) = 0) → ((¬ (σ2 214 x1) = 1) → ((¬ (σ2 214 x1) = 2) → (0 ≤ ((60 * x1) + x2)) ∧ (((60 * x1) + x2) < 480) ∧ T 0 (z_up σ2 215 ((60 * x1) + x2) x3)) ∧ (((σ2 214 x1) = 2) → (r32 (Int.bmod x3 4294967296)) ∧ (0 ≤ ((60 * x1) + x2)) ∧ (((60 * x1) + x2) < 480) ∧ T 0 (z_up σ2 215 ((60 * x1) + x2) (Int.bmod x3 4294967296)))) ∧ (((σ2 214 x1) = 1) → (r32 (Int.bmod (Int.bmod x3 4294967296) 65536)) ∧ (0 ≤ ((60 * x1) + x2)) ∧ (((60 * x1) + x2) < 480) ∧ T 0 (z_up σ2 215 ((60 * x1) + x2) (Int.bmod (Int.bmod x3 4294967296) 65536)))) ∧ (((σ2 214 x1) = 0) → (r32 (Int.bmod (Int.bmod x3 4294967296) 256)) ∧ (0 ≤ ((60 * x1) + x2)) ∧ (((60 * x1) + x2) < 480) ∧ T 0 (z_up σ2 215 ((60 * x1) + x2) (Int.bmod (Int.bmod x3 4294967296) 256)))) ∧ ((¬ (x2 < ((σ2 213 x1) - 1))) → T (-6) σ2))) ∧ (((σ2 213 x1) = 0) → T (-5) σ2)) ∧ ((r1 = false) → T (-2) σ2)))) : ZC X (rX12_write zN) mX12_write [(2, 211), (0, x1), (0, x2), (1, x3)] zN σ (zQi T) := by
  show Z X _ _ 0 [(2, 211), (0, x1), (0, x2), (1, x3), (9, 0), (9, 0)] [] _ σ _
  refine Z_iload_n 1 dX12_write_0 rfl rfl ?_
  refine Z_invS (M' := mX12_isSlot) (ρ' := rX12_isSlot zN) (st := []) [(0, x1)] dX12_write_1 rfl rfl (kX12_isSlot.cl (Nat.le_of_ble_eq_true rfl) (Nat.le_refl _) (Nat.le_refl _) (Nat.le_of_ble_eq_true rfl) (Nat.le_of_ble_eq_true rfl) (Nat.le_of_ble_eq_true rfl)) (mlX12_141 rfl) sX12_isSlot h (z_kz (fun r1 σ2 h => ?_))
  refine Z_zif_ne (tgt := 10) dX12_write_4 (by decide) (fun c => ?_) (fun c => ?_)
  · replace h := h.1 c
    refine Z_aload_n 0 dX12_write_10 rfl rfl ?_
    obtain ⟨g3, h⟩ := h
    refine Z_get (T := TX12) (N := 30) (ci := 12) (t := 2) 1 dX12_write_11 la_211 (z_leN la_211 (by decide)) rfl (by decide) inX12 (by decide) (flX12_13 rfl) rfl ?_
    refine Z_top (y := 213) ((Fix.get g3 la_211 1 2 (by decide +kernel)).trans (by clear h; omega)) ?_
    refine Z_iload_n 1 dX12_write_14 rfl rfl ?_
    obtain ⟨g4, h⟩ := h
    obtain ⟨g5, h⟩ := h
    refine Z_iald dX12_write_15 la_213 (z_leN la_213 (by decide)) g4 g5 ?_
    obtain ⟨g6, h⟩ := h
    refine Z_if_ne (tgt := 22) dX12_write_16 (by decide) g6 (fun c => ?_) (fun c => ?_)
    · replace h := h.1 c
      refine Z_iload_n 2 dX12_write_22 rfl rfl ?_
      obtain ⟨g7, h⟩ := h
      refine Z_if_lt (tgt := 38) dX12_write_23 (by decide) g7 (fun c => ?_) (fun c => ?_)
      · replace h := h.1 c
        refine Z_bipush dX12_write_38 (by decide) ?_
        exact Z_ireturn dX12_write_40 rfl rfl ⟨rfl, h⟩
      · replace h := h.2 c
        refine Z_iload_n 2 dX12_write_26 rfl rfl ?_
        refine Z_aload_n 0 dX12_write_27 rfl rfl ?_
        refine Z_get (T := TX12) (N := 30) (ci := 12) (t := 2) 1 dX12_write_28 la_211 (z_leN la_211 (by decide)) rfl (by decide) inX12 (by decide) (flX12_13 rfl) rfl ?_
        refine Z_top (y := 213) ((Fix.get g3 la_211 1 2 (by decide +kernel)).trans (by clear h; omega)) ?_
        refine Z_iload_n 1 dX12_write_31 rfl rfl ?_
        refine Z_iald dX12_write_32 la_213 (z_leN la_213 (by decide)) g4 g5 ?_
        refine Z_iconst dX12_write_33 ?_
        refine Z_isub dX12_write_34 ?_
        obtain ⟨g8, h⟩ := h
        refine Z_icmp_lt (tgt := 41) dX12_write_35 (by decide) g7 g8 (fun c => ?_) (fun c => ?_)
        · replace h := h.1 c
          refine Z_aload_n 0 dX12_write_41 rfl rfl ?_
          refine Z_get (T := TX12) (N := 30) (ci := 12) (t := 2) 2 dX12_write_42 la_211 (z_leN la_211 (by decide)) rfl (by decide) inX12 (by decide) (flX12_17 rfl) rfl ?_
          refine Z_top (y := 214) ((Fix.get g3 la_211 2 3 (by decide +kernel)).trans (by clear h; omega)) ?_
          refine Z_iload_n 1 dX12_write_45 rfl rfl ?_
          refine Z_iald dX12_write_46 la_214 (z_leN la_214 (by decide)) g4 g5 ?_
          refine Z_istore (L' := [(2, 211), (0, x1), (0, x2), (1, x3), (9, 0), (0, (σ2 214 x1))]) dX12_write_47 (Nat.le_of_ble_eq_true rfl) rfl ?_
          refine Z_aload_n 0 dX12_write_49 rfl rfl ?_
          refine Z_get (T := TX12) (N := 30) (ci := 12) (t := 2) 3 dX12_write_50 la_211 (z_leN la_211 (by decide)) rfl (by decide) inX12 (by decide) (flX12_20 rfl) rfl ?_
          refine Z_top (y := 215) ((Fix.get g3 la_211 3 4 (by decide +kernel)).trans (by clear h; omega)) ?_
          refine Z_bipush dX12_write_53 (by decide) ?_
          refine Z_iload_n 1 dX12_write_55 rfl rfl ?_
          refine Z_imul dX12_write_56 ?_
          refine Z_iload_n 2 dX12_write_57 rfl rfl ?_
          refine Z_iadd dX12_write_58 ?_
          refine Z_iload dX12_write_59 rfl ?_
          obtain ⟨g9, h⟩ := h
          refine Z_if_ne (tgt := 71) dX12_write_61 (by decide) g9 (fun c => ?_) (fun c => ?_)
          · replace h := h.1 c
            refine Z_iload dX12_write_71 rfl ?_
            refine Z_iconst dX12_write_73 ?_
            refine Z_icmp_ne (tgt := 84) dX12_write_74 (by decide) g9 ⟨by decide, by decide⟩ (fun c => ?_) (fun c => ?_)
            · replace h := h.1 c
              refine Z_iload dX12_write_84 rfl ?_
              refine Z_iconst dX12_write_86 ?_
              refine Z_icmp_ne (tgt := 96) dX12_write_87 (by decide) g9 ⟨by decide, by decide⟩ (fun c => ?_) (fun c => ?_)
              · replace h := h.1 c
                refine Z_lload_n 3 dX12_write_96 rfl rfl ?_
                obtain ⟨g10, h⟩ := h
                obtain ⟨g11, h⟩ := h
                refine Z_last dX12_write_97 la_215 (z_leN la_215 (by decide)) g10 g11 ?_
                refine Z_iconst dX12_write_98 ?_
                exact Z_ireturn dX12_write_99 rfl rfl ⟨rfl, h⟩
              · replace h := h.2 c
                refine Z_lload_n 3 dX12_write_90 rfl rfl ?_
                refine Z_l2im dX12_write_91 ?_
                obtain ⟨g12, h⟩ := h
                refine Z_i2l dX12_write_92 g12 ?_
                refine Z_goto (tgt := 97) dX12_write_93 (by decide) ?_
                obtain ⟨g13, h⟩ := h
                obtain ⟨g14, h⟩ := h
                refine Z_last dX12_write_97 la_215 (z_leN la_215 (by decide)) g13 g14 ?_
                refine Z_iconst dX12_write_98 ?_
                exact Z_ireturn dX12_write_99 rfl rfl ⟨rfl, h⟩
            · replace h := h.2 c
              refine Z_lload_n 3 dX12_write_77 rfl rfl ?_
              refine Z_l2im dX12_write_78 ?_
              refine Z_i2s dX12_write_79 ?_
              obtain ⟨g15, h⟩ := h
              refine Z_i2l dX12_write_80 g15 ?_
              refine Z_goto (tgt := 97) dX12_write_81 (by decide) ?_
              obtain ⟨g16, h⟩ := h
              obtain ⟨g17, h⟩ := h
              refine Z_last dX12_write_97 la_215 (z_leN la_215 (by decide)) g16 g17 ?_
              refine Z_iconst dX12_write_98 ?_
              exact Z_ireturn dX12_write_99 rfl rfl ⟨rfl, h⟩
          · replace h := h.2 c
            refine Z_lload_n 3 dX12_write_64 rfl rfl ?_
            refine Z_l2im dX12_write_65 ?_
            refine Z_i2b dX12_write_66 ?_
            obtain ⟨g18, h⟩ := h
            refine Z_i2l dX12_write_67 g18 ?_
            refine Z_goto (tgt := 97) dX12_write_68 (by decide) ?_
            obtain ⟨g19, h⟩ := h
            obtain ⟨g20, h⟩ := h
            refine Z_last dX12_write_97 la_215 (z_leN la_215 (by decide)) g19 g20 ?_
            refine Z_iconst dX12_write_98 ?_
            exact Z_ireturn dX12_write_99 rfl rfl ⟨rfl, h⟩
        · replace h := h.2 c
          refine Z_bipush dX12_write_38 (by decide) ?_
          exact Z_ireturn dX12_write_40 rfl rfl ⟨rfl, h⟩
    · replace h := h.2 c
      refine Z_bipush dX12_write_19 (by decide) ?_
      exact Z_ireturn dX12_write_21 rfl rfl ⟨rfl, h⟩
  · replace h := h.2 c
    refine Z_bipush dX12_write_7 (by decide) ?_
    exact Z_ireturn dX12_write_9 rfl rfl ⟨rfl, h⟩


/-- a number cut to a width -/
def cutv (w x : Int) : Int := if w = 0 then Int.bmod (Int.bmod x 4294967296) 256 else if w = 1 then Int.bmod (Int.bmod x 4294967296) 65536 else if w = 2 then Int.bmod x 4294967296 else x
theorem bm_r {x : Int} {m : Nat} (hm : m = 256 ∨ m = 65536 ∨ m = 4294967296) : r32 (Int.bmod x m) := by
  have h1 := Int.le_bmod (x := x) (m := m) (by omega)
  have h2 := Int.bmod_lt (x := x) (m := m) (by omega)
  constructor <;> omega
theorem r64_of32 {x : Int} (h : r32 x) : r64 x := ⟨by have := h.1; omega, by have := h.2; omega⟩
theorem cutv_r {w x : Int} (hx : r64 x) : r64 (cutv w x) := by
  unfold cutv
  split
  · exact r64_of32 (bm_r (m := 256) (by omega))
  · split
    · exact r64_of32 (bm_r (m := 65536) (by omega))
    · split
      · exact r64_of32 (bm_r (m := 4294967296) (by omega))
      · exact hx
theorem c_cut {X : ZS} {σ : ZM} {T : Int → ZM → Prop} {x w : Int} (h0 : 0 ≤ w) (h1 : w ≤ 3) (h : T (cutv w x) σ) : ZC X (rX8_cut zN) mX8_cut [(1, x), (0, w)] zN σ (zQl T) := by
  refine bk2_X8_cut ⟨by constructor <;> omega, fun e => ⟨bm_r (m := 256) (by omega), ?_⟩, fun e => ⟨bm_r (m := 65536) (by omega), ?_⟩, fun e => ⟨bm_r (m := 4294967296) (by omega), ?_⟩, fun e => ?_⟩
  · unfold cutv at h; rw [if_pos e] at h; exact h
  · unfold cutv at h; rw [if_neg (by omega), if_pos e] at h; exact h
  · unfold cutv at h; rw [if_neg (by omega), if_neg (by omega), if_pos e] at h; exact h
  · unfold cutv at h; rw [if_neg (by omega), if_neg (by omega), if_neg (by omega)] at h; exact h
