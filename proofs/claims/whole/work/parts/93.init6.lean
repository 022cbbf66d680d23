theorem BC.fr {σ M : ZM} (b : BC σ) (o : ∀ c : Int, 1 ≤ c → c < 211 → M c = σ c) : BC M := by
  obtain ⟨r1, b2, b6, b8, b11, g, an, wb, p1, p2, p3, p4, p5, p6⟩ := b
  refine ⟨by rw [o 1 (by decide) (by decide)]; exact r1, ⟨by rw [o 2 (by decide) (by decide)]; exact b2.1, fun k k0 k1 => by rw [o 5 (by decide) (by decide)]; exact b2.2 k k0 k1⟩, by rw [o 6 (by decide) (by decide)]; exact b6, by rw [o 8 (by decide) (by decide)]; exact b8, by rw [o 11 (by decide) (by decide)]; exact b11, ⟨by rw [o 16 (by decide) (by decide)]; exact g.1, by rw [o 26 (by decide) (by decide)]; exact g.2.1, fun a ha h1 h2 => (g.2.2.1 a ha h1 h2).fr (o a (by omega) (by omega)) (o (a + 1) (by omega) (by omega)), fun t t0 t1 => by rw [o 17 (by decide) (by decide)]; exact g.2.2.2 t t0 t1⟩, ⟨by rw [o 141 (by decide) (by decide)]; exact an.1, fun a ha h1 h2 => (an.2.1 a ha h1 h2).fr (o a (by omega) (by omega)) (o (a + 1) (by omega) (by omega)), fun t t0 t1 => by rw [o 142 (by decide) (by decide)]; exact an.2.2 t t0 t1⟩, ⟨by rw [o 169 (by decide) (by decide)]; exact wb.1, by rw [o 170 (by decide) (by decide)]; exact wb.2.1, fun a ha h1 h2 => (wb.2.2 a ha h1 h2).fr (o a (by omega) (by omega)) (o (a + 1) (by omega) (by omega))⟩, p1.fr (fun c h1 h2 => o c (by omega) (by omega)), p2.fr (fun c h1 h2 => o c (by omega) (by omega)), p3.fr (fun c h1 h2 => o c (by omega) (by omega)), p4.fr (fun c h1 h2 => o c (by omega) (by omega)), p5.fr (fun c h1 h2 => o c (by omega) (by omega)), p6.fr (fun c h1 h2 => o c (by omega) (by omega))⟩
def α0 : ZM := fun c i => if c = 0 then (if i = 2 then -1 else if i = 3 then 8 else 0) else if c = 11 then (if i = 1 then 1 else 0) else 0
theorem ok_0 : Ok α0 := by
  refine ⟨by decide, by decide, by decide, by decide, Or.inl rfl, fun i h0 h1 => ?_, fun l w h0 h1 => ?_, fun k _ _ => ⟨by show (0 : Int) ≤ 0 ∧ (0 : Int) ≤ 61; decide, fun q => absurd rfl q⟩, by decide⟩
  · have : i < 0 := h1
    omega
  · have : l < 0 := h1
    omega
theorem cs_0 {F : ZM} (b : BC F) (f : Fix F) : CS F α0 := by
  have bb := b
  obtain ⟨r1, b2, b6, b8, b11, g, an, wb, p1, p2, p3, p4, p5, p6⟩ := bb
  have gp : GP (F 17) := by
    refine ⟨fun t t0 t1 => ?_, fun s t s0 s1 t0 t1 e => ?_⟩
    · rw [g.2.2.2 t t0 t1]
      have := l_grid (i := t.toNat) (by omega)
      rw [show ((28 + 2 * t.toNat + 1 : Nat) : Int) = 29 + 2 * t by omega] at this
      exact ⟨this, by omega, by omega⟩
    · rw [g.2.2.2 s s0 s1, g.2.2.2 t t0 t1] at e
      omega
  have x11 : F 1 11 = 199 := by rw [r1]; rfl
  have x12 : F 1 12 = 205 := by rw [r1]; rfl
  refine ⟨⟨f, fun a ha => (b.whole ha).2, gp, an.2.2⟩, fun k k0 k1 => ⟨?_, fun q => absurd rfl q⟩, ⟨Or.inl ⟨x11, x12⟩, ?_⟩, ⟨b6.2, fun l w h0 h1 => ?_⟩, ⟨by rw [r1]; rfl, by rw [r1]; rfl, an.1.2.2.2.2.2.2⟩, CA.none rfl, ⟨p1.2.1.wf.2, p1.2.2.2.2⟩⟩
  · rw [b2.2 k k0 k1]; rfl
  · rw [x11]
    refine ⟨p5.2.2.2, fun i h0 h1 => ?_⟩
    have : i < 0 := h1
    omega
  · have : l < 0 := h1
    omega
theorem nm_0 {M : ZM} (f : Fix M) (h : M 212 = fun _ => 0) : NM M (fun _ => 0) := by
  refine ⟨f, fun k k0 k1 => ?_⟩
  have e : mr M k = fun _ => 0 := by funext j; unfold mr sh; rw [h]
  refine ⟨⟨fun i _ _ => by rw [e]; exact ⟨Int.le_refl _, by show (0 : Int) < 1000000000; decide⟩, Or.inl (by rw [e])⟩, ?_⟩
  unfold mv
  rw [e]
  exact (dv_zero (m := 0) (by decide) (fun _ _ _ => rfl)).trans rfl
theorem st_m {τ τ' : ZM} {p k v : Int} (hp : 211 < p) (h : τ' = z_up (z_new τ p) 211 k v) : (∀ c : Int, c ≠ 211 → c ≠ p → τ' c = τ c) ∧ τ' 211 = fu (τ 211) k v ∧ τ' p = fun _ => 0 := by
  subst h
  refine ⟨fun c h1 h2 => ?_, ?_, ?_⟩
  · rw [z_up_far _ _ _ h1, z_new_n _ h2]
  · rw [z_up_row, z_new_n _ (by omega)]
  · rw [z_up_far _ _ _ (by omega), z_new_s]
theorem st_f {τ τ' : ZM} {k v : Int} (h : τ' = z_up τ 211 k v) : (∀ c : Int, c ≠ 211 → τ' c = τ c) ∧ τ' 211 = fu (τ 211) k v := by
  subst h
  exact ⟨fun c h1 => z_up_far _ _ _ h1, z_up_row _ _ _ _⟩
theorem i_12 {X : ZS} {σ : ZM} {T : ZM → Prop} (b : BC σ) (hz : σ 211 = fun _ => 0) (h : ∀ F, CS F α0 → MS F α0 → T F) : ZC X (rX12_init 229) mX12_init [(2, 211)] 211 σ (zQv T) := by
  refine bk_X12_init (n := 211) (n1 := 229) la_211 ⟨la_212, by decide, by decide, la_213, by decide, by decide, la_214, by decide, by decide, la_215, by decide, by decide, la_216, by decide, by decide, la_217, by decide, by decide, la_218, by decide, by decide, la_219, by decide, by decide, la_220, by decide, by decide, la_221, by decide, by decide, la_222, by decide, by decide, la_223, by decide, by decide, la_224, by decide, by decide, la_225, by decide, by decide, la_226, by decide, by decide, la_227, by decide, by decide, la_228, by decide, by decide, la_229, by decide, by decide, ?_⟩
  obtain ⟨τ0, h0⟩ : ∃ t : ZM, t = z_up (z_new σ 212) 211 0 212 := ⟨_, rfl⟩
  have s0 := st_m (by decide) h0
  obtain ⟨τ1, h1⟩ : ∃ t : ZM, t = z_up (z_new τ0 213) 211 1 213 := ⟨_, rfl⟩
  have s1 := st_m (by decide) h1
  obtain ⟨τ2, h2⟩ : ∃ t : ZM, t = z_up (z_new τ1 214) 211 2 214 := ⟨_, rfl⟩
  have s2 := st_m (by decide) h2
  obtain ⟨τ3, h3⟩ : ∃ t : ZM, t = z_up (z_new τ2 215) 211 3 215 := ⟨_, rfl⟩
  have s3 := st_m (by decide) h3
  obtain ⟨τ4, h4⟩ : ∃ t : ZM, t = z_up (z_new τ3 216) 211 5 216 := ⟨_, rfl⟩
  have s4 := st_m (by decide) h4
  obtain ⟨τ5, h5⟩ : ∃ t : ZM, t = z_up (z_new τ4 217) 211 6 217 := ⟨_, rfl⟩
  have s5 := st_m (by decide) h5
  obtain ⟨τ6, h6⟩ : ∃ t : ZM, t = z_up (z_new τ5 218) 211 7 218 := ⟨_, rfl⟩
  have s6 := st_m (by decide) h6
  obtain ⟨τ7, h7⟩ : ∃ t : ZM, t = z_up (z_new τ6 219) 211 8 219 := ⟨_, rfl⟩
  have s7 := st_m (by decide) h7
  obtain ⟨τ8, h8⟩ : ∃ t : ZM, t = z_up (z_new τ7 220) 211 10 220 := ⟨_, rfl⟩
  have s8 := st_m (by decide) h8
  obtain ⟨τ9, h9⟩ : ∃ t : ZM, t = z_up τ8 211 11 (-1) := ⟨_, rfl⟩
  have s9 := st_f h9
  obtain ⟨τ10, h10⟩ : ∃ t : ZM, t = z_up τ9 211 12 8 := ⟨_, rfl⟩
  have s10 := st_f h10
  obtain ⟨τ11, h11⟩ : ∃ t : ZM, t = z_up (z_new τ10 221) 211 14 221 := ⟨_, rfl⟩
  have s11 := st_m (by decide) h11
  obtain ⟨τ12, h12⟩ : ∃ t : ZM, t = z_up (z_new τ11 222) 211 15 222 := ⟨_, rfl⟩
  have s12 := st_m (by decide) h12
  obtain ⟨τ13, h13⟩ : ∃ t : ZM, t = z_up (z_new τ12 223) 211 16 223 := ⟨_, rfl⟩
  have s13 := st_m (by decide) h13
  obtain ⟨τ14, h14⟩ : ∃ t : ZM, t = z_up (z_new τ13 224) 211 21 224 := ⟨_, rfl⟩
  have s14 := st_m (by decide) h14
  obtain ⟨τ15, h15⟩ : ∃ t : ZM, t = z_up (z_new τ14 225) 211 22 225 := ⟨_, rfl⟩
  have s15 := st_m (by decide) h15
  obtain ⟨τ16, h16⟩ : ∃ t : ZM, t = z_up (z_new τ15 226) 211 24 226 := ⟨_, rfl⟩
  have s16 := st_m (by decide) h16
  obtain ⟨τ17, h17⟩ : ∃ t : ZM, t = z_up (z_new τ16 227) 211 25 227 := ⟨_, rfl⟩
  have s17 := st_m (by decide) h17
  obtain ⟨τ18, h18⟩ : ∃ t : ZM, t = z_up (z_new τ17 228) 211 27 228 := ⟨_, rfl⟩
  have s18 := st_m (by decide) h18
  obtain ⟨τ19, h19⟩ : ∃ t : ZM, t = z_up (z_new τ18 229) 211 28 229 := ⟨_, rfl⟩
  have s19 := st_m (by decide) h19
  have low : ∀ c : Int, c < 211 → τ19 c = σ c := fun c hc => by
    rw [s19.1 c (by omega) (by omega), s18.1 c (by omega) (by omega), s17.1 c (by omega) (by omega), s16.1 c (by omega) (by omega), s15.1 c (by omega) (by omega), s14.1 c (by omega) (by omega), s13.1 c (by omega) (by omega), s12.1 c (by omega) (by omega), s11.1 c (by omega) (by omega), s10.1 c (by omega), s9.1 c (by omega), s8.1 c (by omega) (by omega), s7.1 c (by omega) (by omega), s6.1 c (by omega) (by omega), s5.1 c (by omega) (by omega), s4.1 c (by omega) (by omega), s3.1 c (by omega) (by omega), s2.1 c (by omega) (by omega), s1.1 c (by omega) (by omega), s0.1 c (by omega) (by omega)]
  have row : τ19 211 = mrow := by
    rw [s19.2.1, s18.2.1, s17.2.1, s16.2.1, s15.2.1, s14.2.1, s13.2.1, s12.2.1, s11.2.1, s10.2, s9.2, s8.2.1, s7.2.1, s6.2.1, s5.2.1, s4.2.1, s3.2.1, s2.2.1, s1.2.1, s0.2.1, hz]
    rfl
  have z212 : τ19 212 = fun _ => 0 := by
    rw [s19.1 212 (by decide) (by decide), s18.1 212 (by decide) (by decide), s17.1 212 (by decide) (by decide), s16.1 212 (by decide) (by decide), s15.1 212 (by decide) (by decide), s14.1 212 (by decide) (by decide), s13.1 212 (by decide) (by decide), s12.1 212 (by decide) (by decide), s11.1 212 (by decide) (by decide), s10.1 212 (by decide), s9.1 212 (by decide), s8.1 212 (by decide) (by decide), s7.1 212 (by decide) (by decide), s6.1 212 (by decide) (by decide), s5.1 212 (by decide) (by decide), s4.1 212 (by decide) (by decide), s3.1 212 (by decide) (by decide), s2.1 212 (by decide) (by decide), s1.1 212 (by decide) (by decide), s0.2.2]
  have z213 : τ19 213 = fun _ => 0 := by
    rw [s19.1 213 (by decide) (by decide), s18.1 213 (by decide) (by decide), s17.1 213 (by decide) (by decide), s16.1 213 (by decide) (by decide), s15.1 213 (by decide) (by decide), s14.1 213 (by decide) (by decide), s13.1 213 (by decide) (by decide), s12.1 213 (by decide) (by decide), s11.1 213 (by decide) (by decide), s10.1 213 (by decide), s9.1 213 (by decide), s8.1 213 (by decide) (by decide), s7.1 213 (by decide) (by decide), s6.1 213 (by decide) (by decide), s5.1 213 (by decide) (by decide), s4.1 213 (by decide) (by decide), s3.1 213 (by decide) (by decide), s2.1 213 (by decide) (by decide), s1.2.2]
  have bM : BC τ19 := b.fr (fun c _ h2 => low c h2)
  have fM' : Fix τ19 := fix_of bM row
  have L : ZC X (rX12_set zN) mX12_set [(2, 211), (0, 0), (1, 0)] zN τ19 (zQv (fun σ56 => ZC X (rX12_set zN) mX12_set [(2, 211), (0, 1), (1, 1)] zN σ56 (zQv (fun σ58 => (229 = 229) ∧ T σ58)))) := by
    refine c_set (by decide) (by decide) (nm_0 fM' z212) (by decide) (by decide) (fun σ56 o56 n56 => c_set (by decide) (by decide) n56 (by decide) (by decide) (fun σ58 o58 n58 => ⟨rfl, ?_⟩))
    have oo := o56.trans o58
    have b58 : BC σ58 := bM.fr (fun c _ h2 => oo c (by omega) (by omega) (by omega) (by omega))
    have m211 : σ58 211 = mrow := by rw [oo 211 (by decide) (by decide) (by decide) (by decide)]; exact row
    have m213 : σ58 213 = fun _ => 0 := by rw [oo 213 (by decide) (by decide) (by decide) (by decide)]; exact z213
    refine h σ58 (cs_0 b58 n58.1) ⟨⟨_, n58, fun q => absurd q (by decide), rfl, rfl⟩, fun k _ _ => ⟨by rw [m213]; rfl, fun q => absurd rfl q⟩, ⟨by rw [m211]; rfl, fun i h0 h1 => ?_⟩, ⟨by rw [m211]; rfl, fun l w h0 h1 => ?_⟩, ⟨by rw [m211]; rfl, by rw [m211]; rfl, by rw [m211]; rfl⟩⟩
    · have : i < 0 := h1
      omega
    · have : l < 0 := h1
      omega
  rw [h19, h18, h17, h16, h15, h14, h13, h12, h11, h10, h9, h8, h7, h6, h5, h4, h3, h2, h1, h0] at L
  exact L
