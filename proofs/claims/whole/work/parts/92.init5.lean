def zofs (c : Nat) : List (Nat × Nat) := (List.range 30).filterMap (fun k => (z_off c k).map (fun d => (k, d)))
theorem zofs_mem {c k d : Nat} (hk : k < 30) (h : z_off c k = some d) : (k, d) ∈ zofs c := List.mem_filterMap.mpr ⟨k, List.mem_range.mpr hk, by rw [h]; rfl⟩
theorem zoff_30 {c k d : Nat} (hc : c < 13) (h : z_off c k = some d) : k < 30 := by
  have len : ∀ c, c < 13 → (z_offl.getD c []).length ≤ 30 := by decide +kernel
  apply Classical.byContradiction
  intro q
  unfold z_off at h
  rw [List.getD_eq_getElem?_getD (l := z_offl.getD c []), List.getElem?_eq_none (Nat.le_trans (len c hc) (by omega))] at h
  cases h
theorem obj_cases {a : Int} (h : (z_l a).1 < 20) : z_l a = (9, 3) ∨ a = 1 ∨ a = 2 ∨ a = 6 ∨ a = 8 ∨ a = 11 ∨ a = 16 ∨ a = 26 ∨ a = 141 ∨ a = 169 ∨ a = 170 ∨ a = 179 ∨ a = 184 ∨ a = 189 ∨ a = 194 ∨ a = 199 ∨ a = 200 ∨ a = 205 ∨ a = 206 ∨ a = 211 := by
  have h1 := z_l_pos (a := a) (by omega)
  have h2 : ∀ i, i < z_lay.length → (z_lay.getD i (99, 0)).1 < 20 → z_lay.getD i (99, 0) = (9, 3) ∨ i ∈ [1, 2, 6, 8, 11, 16, 26, 141, 169, 170, 179, 184, 189, 194, 199, 200, 205, 206, 211] := by decide +kernel
  rcases h2 _ h1.2 h with w | w
  · exact Or.inl w
  · simp only [List.mem_cons, List.not_mem_nil, or_false] at w
    right
    omega
theorem BC.whole {M : ZM} (b : BC M) {a : Int} (h : z_l a = (9, 3)) : M a 0 = a + 1 ∧ WF M a := by
  obtain ⟨_, _, _, _, _, g, an, wb, p1, p2, p3, p4, _, _⟩ := b
  have c := w_cases h
  by_cases q1 : a ≤ 139
  · have := g.2.2.1 a h (by omega) q1
    exact ⟨this.f0, this.wf.1⟩
  · by_cases q2 : a ≤ 167
    · have := an.2.1 a h (by omega) q2
      exact ⟨this.f0, this.wf.1⟩
    · by_cases q3 : a ≤ 178
      · have := wb.2.2 a h (by omega) q3
        exact ⟨this.f0, this.wf.1⟩
      · have q : a = 180 ∨ a = 182 ∨ a = 185 ∨ a = 187 ∨ a = 190 ∨ a = 192 ∨ a = 195 ∨ a = 197 := by omega
        rcases q with q | q | q | q | q | q | q | q <;> subst q
        · exact ⟨p1.2.1.f0, p1.2.1.wf.1⟩
        · exact ⟨p1.2.2.1, p1.2.2.2.1⟩
        · exact ⟨p2.2.1.f0, p2.2.1.wf.1⟩
        · exact ⟨p2.2.2.1, p2.2.2.2.1⟩
        · exact ⟨p3.2.1.f0, p3.2.1.wf.1⟩
        · exact ⟨p3.2.2.1, p3.2.2.2.1⟩
        · exact ⟨p4.2.1.f0, p4.2.1.wf.1⟩
        · exact ⟨p4.2.2.1, p4.2.2.2.1⟩
/-- the model's own row -/
def mrow : Int → Int := (fu (fu (fu (fu (fu (fu (fu (fu (fu (fu (fu (fu (fu (fu (fu (fu (fu (fu (fu (fu (fun _ => 0) 0 212) 1 213) 2 214) 3 215) 5 216) 6 217) 7 218) 8 219) 10 220) 11 (-1)) 12 8) 14 221) 15 222) 16 223) 21 224) 22 225) 24 226) 25 227) 27 228) 28 229)
theorem fix_of {M : ZM} (b : BC M) (m : M 211 = mrow) : Fix M := by
  intro a k d hd
  by_cases h20 : (z_l a).1 < 20
  · have oc := obj_cases h20
    have bb := b
    obtain ⟨r1, b2, b6, b8, b11, g, an, wb, p1, p2, p3, p4, p5, p6⟩ := bb
    rcases oc with w | w | w | w | w | w | w | w | w | w | w | w | w | w | w | w | w | w | w | w
    · rw [w] at hd
      have hm := zofs_mem (zoff_30 (by decide) hd) hd
      rw [show zofs 9 = [(0, 1)] by decide +kernel] at hm
      simp only [List.mem_cons, List.not_mem_nil, or_false, Prod.mk.injEq] at hm
      obtain ⟨rfl, rfl⟩ := hm
      exact (b.whole w).1
    · subst w
      rw [la_1] at hd
      have hm := zofs_mem (zoff_30 (by decide) hd) hd
      rw [show zofs 11 = [(0, 1), (1, 5), (2, 7), (3, 10), (4, 15), (5, 140), (6, 168), (7, 178), (8, 183), (9, 188), (10, 193)] by decide +kernel] at hm
      simp only [List.mem_cons, List.not_mem_nil, or_false, Prod.mk.injEq] at hm
      rcases hm with ⟨rfl, rfl⟩ | ⟨rfl, rfl⟩ | ⟨rfl, rfl⟩ | ⟨rfl, rfl⟩ | ⟨rfl, rfl⟩ | ⟨rfl, rfl⟩ | ⟨rfl, rfl⟩ | ⟨rfl, rfl⟩ | ⟨rfl, rfl⟩ | ⟨rfl, rfl⟩ | ⟨rfl, rfl⟩
      · rw [r1]; rfl
      · rw [r1]; rfl
      · rw [r1]; rfl
      · rw [r1]; rfl
      · rw [r1]; rfl
      · rw [r1]; rfl
      · rw [r1]; rfl
      · rw [r1]; rfl
      · rw [r1]; rfl
      · rw [r1]; rfl
      · rw [r1]; rfl
    · subst w
      rw [la_2] at hd
      have hm := zofs_mem (zoff_30 (by decide) hd) hd
      rw [show zofs 8 = [(0, 1), (1, 2), (2, 3)] by decide +kernel] at hm
      simp only [List.mem_cons, List.not_mem_nil, or_false, Prod.mk.injEq] at hm
      rcases hm with ⟨rfl, rfl⟩ | ⟨rfl, rfl⟩ | ⟨rfl, rfl⟩
      · exact b2.1.1
      · exact b2.1.2.1
      · exact b2.1.2.2
    · subst w
      rw [la_6] at hd
      have hm := zofs_mem (zoff_30 (by decide) hd) hd
      rw [show zofs 5 = [(0, 1)] by decide +kernel] at hm
      simp only [List.mem_cons, List.not_mem_nil, or_false, Prod.mk.injEq] at hm
      obtain ⟨rfl, rfl⟩ := hm
      exact b6.1
    · subst w
      rw [la_8] at hd
      have hm := zofs_mem (zoff_30 (by decide) hd) hd
      rw [show zofs 6 = [(0, 1), (1, 2)] by decide +kernel] at hm
      simp only [List.mem_cons, List.not_mem_nil, or_false, Prod.mk.injEq] at hm
      rcases hm with ⟨rfl, rfl⟩ | ⟨rfl, rfl⟩
      · exact b8.1
      · exact b8.2.1
    · subst w
      rw [la_11] at hd
      have hm := zofs_mem (zoff_30 (by decide) hd) hd
      rw [show zofs 2 = [(0, 1), (1, 2), (2, 3), (3, 4)] by decide +kernel] at hm
      simp only [List.mem_cons, List.not_mem_nil, or_false, Prod.mk.injEq] at hm
      rcases hm with ⟨rfl, rfl⟩ | ⟨rfl, rfl⟩ | ⟨rfl, rfl⟩ | ⟨rfl, rfl⟩
      · exact b11.1
      · exact b11.2.1
      · exact b11.2.2.1
      · exact b11.2.2.2
    · subst w
      rw [la_16] at hd
      have hm := zofs_mem (zoff_30 (by decide) hd) hd
      rw [show zofs 4 = [(0, 1), (1, 2), (2, 4), (3, 6), (4, 8), (5, 10)] by decide +kernel] at hm
      simp only [List.mem_cons, List.not_mem_nil, or_false, Prod.mk.injEq] at hm
      rcases hm with ⟨rfl, rfl⟩ | ⟨rfl, rfl⟩ | ⟨rfl, rfl⟩ | ⟨rfl, rfl⟩ | ⟨rfl, rfl⟩ | ⟨rfl, rfl⟩
      · exact g.1.1
      · exact g.1.2.1
      · exact g.1.2.2.1
      · exact g.1.2.2.2.1
      · exact g.1.2.2.2.2.1
      · exact g.1.2.2.2.2.2
    · subst w
      rw [la_26] at hd
      have hm := zofs_mem (zoff_30 (by decide) hd) hd
      rw [show zofs 1 = [(0, 1), (1, 2)] by decide +kernel] at hm
      simp only [List.mem_cons, List.not_mem_nil, or_false, Prod.mk.injEq] at hm
      rcases hm with ⟨rfl, rfl⟩ | ⟨rfl, rfl⟩
      · exact g.2.1.1
      · exact g.2.1.2
    · subst w
      rw [la_141] at hd
      have hm := zofs_mem (zoff_30 (by decide) hd) hd
      rw [show zofs 0 = [(0, 1), (1, 2), (2, 4), (3, 6), (4, 8), (5, 10)] by decide +kernel] at hm
      simp only [List.mem_cons, List.not_mem_nil, or_false, Prod.mk.injEq] at hm
      rcases hm with ⟨rfl, rfl⟩ | ⟨rfl, rfl⟩ | ⟨rfl, rfl⟩ | ⟨rfl, rfl⟩ | ⟨rfl, rfl⟩ | ⟨rfl, rfl⟩
      · exact an.1.1
      · exact an.1.2.1
      · exact an.1.2.2.1
      · exact an.1.2.2.2.1
      · exact an.1.2.2.2.2.1
      · exact an.1.2.2.2.2.2.1
    · subst w
      rw [la_169] at hd
      have hm := zofs_mem (zoff_30 (by decide) hd) hd
      rw [show zofs 10 = [(0, 1), (1, 4), (2, 6), (3, 8)] by decide +kernel] at hm
      simp only [List.mem_cons, List.not_mem_nil, or_false, Prod.mk.injEq] at hm
      rcases hm with ⟨rfl, rfl⟩ | ⟨rfl, rfl⟩ | ⟨rfl, rfl⟩ | ⟨rfl, rfl⟩
      · exact wb.1.1
      · exact wb.1.2.1
      · exact wb.1.2.2.1
      · exact wb.1.2.2.2
    · subst w
      rw [la_170] at hd
      have hm := zofs_mem (zoff_30 (by decide) hd) hd
      rw [show zofs 1 = [(0, 1), (1, 2)] by decide +kernel] at hm
      simp only [List.mem_cons, List.not_mem_nil, or_false, Prod.mk.injEq] at hm
      rcases hm with ⟨rfl, rfl⟩ | ⟨rfl, rfl⟩
      · exact wb.2.1.1
      · exact wb.2.1.2
    · subst w
      rw [la_179] at hd
      have hm := zofs_mem (zoff_30 (by decide) hd) hd
      rw [show zofs 3 = [(0, 1), (1, 3)] by decide +kernel] at hm
      simp only [List.mem_cons, List.not_mem_nil, or_false, Prod.mk.injEq] at hm
      rcases hm with ⟨rfl, rfl⟩ | ⟨rfl, rfl⟩
      · exact p1.1.1
      · exact p1.1.2
    · subst w
      rw [la_184] at hd
      have hm := zofs_mem (zoff_30 (by decide) hd) hd
      rw [show zofs 3 = [(0, 1), (1, 3)] by decide +kernel] at hm
      simp only [List.mem_cons, List.not_mem_nil, or_false, Prod.mk.injEq] at hm
      rcases hm with ⟨rfl, rfl⟩ | ⟨rfl, rfl⟩
      · exact p2.1.1
      · exact p2.1.2
    · subst w
      rw [la_189] at hd
      have hm := zofs_mem (zoff_30 (by decide) hd) hd
      rw [show zofs 3 = [(0, 1), (1, 3)] by decide +kernel] at hm
      simp only [List.mem_cons, List.not_mem_nil, or_false, Prod.mk.injEq] at hm
      rcases hm with ⟨rfl, rfl⟩ | ⟨rfl, rfl⟩
      · exact p3.1.1
      · exact p3.1.2
    · subst w
      rw [la_194] at hd
      have hm := zofs_mem (zoff_30 (by decide) hd) hd
      rw [show zofs 3 = [(0, 1), (1, 3)] by decide +kernel] at hm
      simp only [List.mem_cons, List.not_mem_nil, or_false, Prod.mk.injEq] at hm
      rcases hm with ⟨rfl, rfl⟩ | ⟨rfl, rfl⟩
      · exact p4.1.1
      · exact p4.1.2
    · subst w
      rw [la_199] at hd
      have hm := zofs_mem (zoff_30 (by decide) hd) hd
      rw [show zofs 7 = [(0, 1), (1, 4), (2, 5)] by decide +kernel] at hm
      simp only [List.mem_cons, List.not_mem_nil, or_false, Prod.mk.injEq] at hm
      rcases hm with ⟨rfl, rfl⟩ | ⟨rfl, rfl⟩ | ⟨rfl, rfl⟩
      · exact p5.1.1
      · exact p5.1.2.1
      · exact p5.1.2.2
    · subst w
      rw [la_200] at hd
      have hm := zofs_mem (zoff_30 (by decide) hd) hd
      rw [show zofs 6 = [(0, 1), (1, 2)] by decide +kernel] at hm
      simp only [List.mem_cons, List.not_mem_nil, or_false, Prod.mk.injEq] at hm
      rcases hm with ⟨rfl, rfl⟩ | ⟨rfl, rfl⟩
      · exact p5.2.1
      · exact p5.2.2.1
    · subst w
      rw [la_205] at hd
      have hm := zofs_mem (zoff_30 (by decide) hd) hd
      rw [show zofs 7 = [(0, 1), (1, 4), (2, 5)] by decide +kernel] at hm
      simp only [List.mem_cons, List.not_mem_nil, or_false, Prod.mk.injEq] at hm
      rcases hm with ⟨rfl, rfl⟩ | ⟨rfl, rfl⟩ | ⟨rfl, rfl⟩
      · exact p6.1.1
      · exact p6.1.2.1
      · exact p6.1.2.2
    · subst w
      rw [la_206] at hd
      have hm := zofs_mem (zoff_30 (by decide) hd) hd
      rw [show zofs 6 = [(0, 1), (1, 2)] by decide +kernel] at hm
      simp only [List.mem_cons, List.not_mem_nil, or_false, Prod.mk.injEq] at hm
      rcases hm with ⟨rfl, rfl⟩ | ⟨rfl, rfl⟩
      · exact p6.2.1
      · exact p6.2.2.1
    · subst w
      rw [la_211] at hd
      have hm := zofs_mem (zoff_30 (by decide) hd) hd
      rw [show zofs 12 = [(0, 1), (1, 2), (2, 3), (3, 4), (5, 5), (6, 6), (7, 7), (8, 8), (10, 9), (14, 10), (15, 11), (16, 12), (21, 13), (22, 14), (24, 15), (25, 16), (27, 17), (28, 18)] by decide +kernel] at hm
      simp only [List.mem_cons, List.not_mem_nil, or_false, Prod.mk.injEq] at hm
      rcases hm with ⟨rfl, rfl⟩ | ⟨rfl, rfl⟩ | ⟨rfl, rfl⟩ | ⟨rfl, rfl⟩ | ⟨rfl, rfl⟩ | ⟨rfl, rfl⟩ | ⟨rfl, rfl⟩ | ⟨rfl, rfl⟩ | ⟨rfl, rfl⟩ | ⟨rfl, rfl⟩ | ⟨rfl, rfl⟩ | ⟨rfl, rfl⟩ | ⟨rfl, rfl⟩ | ⟨rfl, rfl⟩ | ⟨rfl, rfl⟩ | ⟨rfl, rfl⟩ | ⟨rfl, rfl⟩ | ⟨rfl, rfl⟩
      · rw [m]; rfl
      · rw [m]; rfl
      · rw [m]; rfl
      · rw [m]; rfl
      · rw [m]; rfl
      · rw [m]; rfl
      · rw [m]; rfl
      · rw [m]; rfl
      · rw [m]; rfl
      · rw [m]; rfl
      · rw [m]; rfl
      · rw [m]; rfl
      · rw [m]; rfl
      · rw [m]; rfl
      · rw [m]; rfl
      · rw [m]; rfl
      · rw [m]; rfl
      · rw [m]; rfl
  · rw [z_off_arr (by omega)] at hd; cases hd
