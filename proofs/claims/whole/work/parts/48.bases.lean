/-- the class's square from the first, the model's from the last -/
def sqC (G : Nat → Nat → Int) : Nat → Nat → Int := fun i j => G (i + 1) 0 + G 0 (j + 1) - G (i + 1) (j + 1) - G 0 0
def sqM (G : Nat → Nat → Int) (n : Nat) : Nat → Nat → Int := fun i j => G i n + G j n - G i j
theorem qf_two {n : Nat} {u : Nat → Int} {H : Nat → Nat → Int} (c : Nat → Int) : qf n (fun i j => u i + u j - H i j) c = 2 * (sm (fun i => c i * u i) n * sm c n) - qf n H c := by
  have e1 : qf n (fun i j => u i + u j - H i j) c = sm (fun i => c i * u i * sm c n + sm (fun j => c j * u j) n * c i - sm (fun j => c i * c j * H i j) n) n := sm_congr (fun i _ => by
    rw [← sm_mul, ← sm_mulr, ← sm_add, ← sm_sub]
    exact sm_congr (fun j _ => by grind))
  rw [e1, sm_sub, sm_add, sm_mulr, sm_mul]
  show _ - qf n H c = _
  omega
theorem qf_last {n : Nat} {G : Nat → Nat → Int} (c : Nat → Int) (hs : Sy (n + 1) G) : qf (n + 1) G c = qf n G c + 2 * (c n * sm (fun j => c j * G j n) n) + c n * c n * G n n := by
  show sm (fun i => sm (fun j => c i * c j * G i j) n + c i * c n * G i n) n + (sm (fun j => c n * c j * G n j) n + c n * c n * G n n) = _
  rw [sm_add]
  have e1 : sm (fun i => c i * c n * G i n) n = c n * sm (fun j => c j * G j n) n := by
    rw [← sm_mul]; exact sm_congr (fun j _ => by grind)
  have e2 : sm (fun j => c n * c j * G n j) n = c n * sm (fun j => c j * G j n) n := by
    rw [← sm_mul]; exact sm_congr (fun j hj => by rw [hs n j (by omega) (by omega)]; grind)
  rw [e1, e2]
  show qf n G c + _ + _ = _
  omega
theorem qf_class {n : Nat} {G : Nat → Nat → Int} {c : Nat → Int} (hs : Sy (n + 1) G) (h0 : G 0 0 = 0) (hc : sm c (n + 1) = 0) : qf n (sqC G) (fun j => c (j + 1)) = -qf (n + 1) G c := by
  have e1 : qf n (sqC G) (fun j => c (j + 1)) = qf n (fun i j => G 0 (i + 1) + G 0 (j + 1) - shf G i j) (fun j => c (j + 1)) := qf_congr (fun i j hi hj => by
    unfold sqC shf
    rw [hs (i + 1) 0 (by omega) (by omega), h0, Int.sub_zero]) (fun _ _ => rfl)
  rw [e1, qf_two (u := fun i => G 0 (i + 1)), qf_first c hs, h0]
  rw [sm_first] at hc
  have e2 : sm (fun j => c (j + 1)) n = -c 0 := by omega
  rw [e2, Int.mul_neg, Int.mul_comm (sm (fun j => c (j + 1) * G 0 (j + 1)) n)]
  omega
theorem qf_model {n : Nat} {G : Nat → Nat → Int} {c : Nat → Int} (hs : Sy (n + 1) G) (h0 : G n n = 0) (hc : sm c (n + 1) = 0) : qf n (sqM G n) c = -qf (n + 1) G c := by
  have hc : sm c n + c n = 0 := hc
  show qf n (fun i j => G i n + G j n - G i j) c = _
  rw [qf_two (u := fun i => G i n), qf_last c hs, h0]
  have e2 : sm c n = -c n := by omega
  rw [e2, Int.mul_neg, Int.mul_comm (sm (fun j => c j * G j n) n)]
  omega
theorem bases {n : Nat} {G : Nat → Nat → Int} (hs : Sy (n + 1) G) (h0 : G 0 0 = 0) (hn : G n n = 0) : (PSD n (sqC G) ↔ PSD n (sqM G n)) ∧ (PD n (sqC G) ↔ PD n (sqM G n)) := by
  have toM : ∀ c : Nat → Int, ∃ d : Nat → Int, (∀ i, i < n → d i = c i) ∧ sm d (n + 1) = 0 := fun c =>
    ⟨fun i => if i < n then c i else -sm c n, fun i hi => if_pos hi, by
      show sm (fun i => if i < n then c i else -sm c n) n + (if n < n then c n else -sm c n) = 0
      rw [if_neg (Nat.lt_irrefl n), sm_congr (g := c) (fun i hi => if_pos hi)]; omega⟩
  have toC : ∀ c : Nat → Int, ∃ d : Nat → Int, (∀ i, d (i + 1) = c i) ∧ sm d (n + 1) = 0 := fun c =>
    ⟨fun i => match i with | 0 => -sm c n | i + 1 => c i, fun i => rfl, by
      rw [sm_first]
      show -sm c n + sm c n = 0
      omega⟩
  have nz : ∀ d : Nat → Int, sm d (n + 1) = 0 → (∃ i, i < n + 1 ∧ d i ≠ 0) → (∃ i, i < n ∧ d i ≠ 0) ∧ ∃ i, i < n ∧ d (i + 1) ≠ 0 := fun d hd ⟨i, hi, di⟩ => by
    constructor
    · apply Classical.byContradiction
      intro w
      have z : ∀ i, i < n → d i = 0 := fun i hi => Classical.byContradiction (fun q => w ⟨i, hi, q⟩)
      have hd : sm d n + d n = 0 := hd
      rw [sm_zero z] at hd
      rcases Nat.lt_or_ge i n with q | q
      · exact di (z i q)
      · have : i = n := by omega
        subst this; omega
    · apply Classical.byContradiction
      intro w
      have z : ∀ i, i < n → d (i + 1) = 0 := fun i hi => Classical.byContradiction (fun q => w ⟨i, hi, q⟩)
      rw [sm_first, sm_zero z] at hd
      cases i with
      | zero => omega
      | succ i => exact di (z i (by omega))
  refine ⟨⟨fun q c => ?_, fun q c => ?_⟩, ⟨fun q c hc => ?_, fun q c hc => ?_⟩⟩
  · obtain ⟨d, hd, h1⟩ := toM c
    rw [qf_congr (A := sqM G n) (fun _ _ _ _ => rfl) (fun i hi => (hd i hi).symm), qf_model hs hn h1, ← qf_class hs h0 h1]
    exact q _
  · obtain ⟨d, hd, h1⟩ := toC c
    rw [qf_congr (A := sqC G) (d := fun j => d (j + 1)) (fun _ _ _ _ => rfl) (fun i hi => (hd i).symm), qf_class hs h0 h1, ← qf_model hs hn h1]
    exact q _
  · obtain ⟨d, hd, h1⟩ := toM c
    rw [qf_congr (A := sqM G n) (fun _ _ _ _ => rfl) (fun i hi => (hd i hi).symm), qf_model hs hn h1, ← qf_class hs h0 h1]
    obtain ⟨i, hi, ci⟩ := hc
    exact q _ (nz d h1 ⟨i, by omega, by rw [hd i hi]; exact ci⟩).2
  · obtain ⟨d, hd, h1⟩ := toC c
    rw [qf_congr (A := sqC G) (d := fun j => d (j + 1)) (fun _ _ _ _ => rfl) (fun i hi => (hd i).symm), qf_class hs h0 h1, ← qf_model hs hn h1]
    obtain ⟨i, hi, ci⟩ := hc
    exact q _ (nz d h1 ⟨i + 1, by omega, by rw [hd i]; exact ci⟩).1
theorem sy_model {n : Nat} {G : Nat → Nat → Int} (hs : Sy (n + 1) G) : Sy n (sqM G n) := fun i j hi hj => by
  unfold sqM
  rw [hs i j (by omega) (by omega)]; omega
theorem sy_class {n : Nat} {G : Nat → Nat → Int} (hs : Sy (n + 1) G) : Sy n (sqC G) := fun i j hi hj => by
  unfold sqC
  rw [hs (i + 1) (j + 1) (by omega) (by omega), hs (i + 1) 0 (by omega) (by omega), hs 0 (j + 1) (by omega) (by omega)]; omega
