theorem st_K {A : Array Value} {s : State} (hts : ∀ w ∈ z_us, w.before A s = true) : ∃ (dC : Nat → ClassId) (dI : Nat → Nat → Nat), ∀ (k : Nat) (q : vw_C), vwCl[k]? = some q → u_Kn s q.1 q.2.1 q.2.2 (dC k) (dI k) := by
  obtain ⟨c0, d0, h0⟩ := u_known (C := RX0) (T := TX0) (N := 7) (n := 7) hts inX0 (hts _ in_X0)
  obtain ⟨c1, d1, h1⟩ := u_known (C := RX1) (T := TX1) (N := 4) (n := 4) hts inX1 (hts _ in_X1)
  obtain ⟨c2, d2, h2⟩ := u_known (C := RX2) (T := TX2) (N := 6) (n := 6) hts inX2 (hts _ in_X2)
  obtain ⟨c3, d3, h3⟩ := u_known (C := RX3) (T := TX3) (N := 2) (n := 2) hts inX3 (hts _ in_X3)
  obtain ⟨c4, d4, h4⟩ := u_known (C := RX4) (T := TX4) (N := 6) (n := 6) hts inX4 (hts _ in_X4)
  obtain ⟨c5, d5, h5⟩ := u_known (C := RX5) (T := TX5) (N := 2) (n := 2) hts inX5 (hts _ in_X5)
  obtain ⟨c6, d6, h6⟩ := u_known (C := RX6) (T := TX6) (N := 3) (n := 3) hts inX6 (hts _ in_X6)
  obtain ⟨c7, d7, h7⟩ := u_known (C := RX7) (T := TX7) (N := 3) (n := 3) hts inX7 (hts _ in_X7)
  obtain ⟨c8, d8, h8⟩ := u_known (C := RX8) (T := TX8) (N := 9) (n := 9) hts inX8 (hts _ in_X8)
  obtain ⟨c9, d9, h9⟩ := u_known (C := RX9) (T := TX9) (N := 3) (n := 3) hts inX9 (hts _ in_X9)
  obtain ⟨c10, d10, h10⟩ := u_known (C := RX10) (T := TX10) (N := 4) (n := 4) hts inX10 (hts _ in_X10)
  obtain ⟨c11, d11, h11⟩ := u_known (C := RX11) (T := TX11) (N := 15) (n := 15) hts inX11 (hts _ in_X11)
  obtain ⟨c12, d12, h12⟩ := u_known (C := RX12) (T := TX12) (N := 30) (n := 30) hts inX12 (hts _ in_X12)
  refine ⟨fun k => match k with
    | 0 => c0
    | 1 => c1
    | 2 => c2
    | 3 => c3
    | 4 => c4
    | 5 => c5
    | 6 => c6
    | 7 => c7
    | 8 => c8
    | 9 => c9
    | 10 => c10
    | 11 => c11
    | _ => c12, fun k => match k with
    | 0 => d0
    | 1 => d1
    | 2 => d2
    | 3 => d3
    | 4 => d4
    | 5 => d5
    | 6 => d6
    | 7 => d7
    | 8 => d8
    | 9 => d9
    | 10 => d10
    | 11 => d11
    | _ => d12, fun k q hq => ?_⟩
  match k, hq with
  | 0, hq => cases hq; exact h0
  | 1, hq => cases hq; exact h1
  | 2, hq => cases hq; exact h2
  | 3, hq => cases hq; exact h3
  | 4, hq => cases hq; exact h4
  | 5, hq => cases hq; exact h5
  | 6, hq => cases hq; exact h6
  | 7, hq => cases hq; exact h7
  | 8, hq => cases hq; exact h8
  | 9, hq => cases hq; exact h9
  | 10, hq => cases hq; exact h10
  | 11, hq => cases hq; exact h11
  | 12, hq => cases hq; exact h12
  | k + 13, hq => simp at hq
theorem st_A {A : Array Value} {s : State} {ty : FieldType} (h : (Cond.arrayClass ty).before A s = true) : ∃ cA, ArrOfT s cA ty ∧ s.vm.findClass ("[" ++ ty.toString) = some cA := by
  obtain ⟨cA, kA, comp, f1, f2, f3⟩ := Cond.arrayClass_spec h
  exact ⟨cA, fun N z => ⟨(fun k h => by cases h), kA, f2, comp, f3⟩, f1⟩
theorem st_O {A : Array Value} {s : State} {C : String} (h : (Cond.arrayOver (.object C)).before A s = true) : ∃ cA, ArrOfT s cA (.object C) ∧ va_RA s cA (.object C) := by
  obtain ⟨comp, cA, kA, f1, -, f2, f3, f4⟩ := Cond.arrayOver_spec h
  exact ⟨cA, fun N z => ⟨(fun k h => by cases h), kA, f2, comp, f3⟩, kA, comp, f2, f3, f1, f4⟩
theorem st_fix {A : Array Value} {s : State} (hts : ∀ w ∈ z_us, w.before A s = true) : ∃ (D : va_G) (cA : Nat → ClassId), va_K D vwCl (z_tys cA) s := by
  obtain ⟨dC, dI, hK⟩ := st_K hts
  obtain ⟨c0, a0, r0⟩ := st_A (hts _ ac_int)
  obtain ⟨c1, a1, r1⟩ := st_A (hts _ ac_long)
  obtain ⟨c2, a2, r2⟩ := st_A (hts _ ac_boolean)
  obtain ⟨c3, a3, r3⟩ := st_O (hts _ ao_W)
  refine ⟨(dC, dI), fun k => match k with
    | 0 => c0
    | 1 => c1
    | 2 => c2
    | _ => c3, hK, fun k q hq => ?_⟩
  match k, hq with
  | 0, hq => cases hq; exact ⟨a0, r0⟩
  | 1, hq => cases hq; exact ⟨a1, r1⟩
  | 2, hq => cases hq; exact ⟨a2, r2⟩
  | 3, hq => cases hq; exact ⟨a3, r3⟩
  | k + 4, hq => simp [z_tys] at hq
theorem st_ss : z_ss 229 ≤ 7302250 := by decide +kernel
