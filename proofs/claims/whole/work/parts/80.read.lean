theorem spE.of4 {j : Int} {a b : zI} (h : ∀ q, q ≠ 4 → q ≠ 5 → q ≠ 6 → b q = a q) : spE j a b := ⟨fun k x1 x2 x3 _ _ _ _ _ _ => h k x1 x2 x3, fun k i hk _ => by rw [h k (by omega) (by omega) (by omega)]⟩
theorem spE.of33 {j : Int} {a b : zI} (h : ∀ q, q ≠ 33 → b q = a q) (h' : ∀ i, i ≠ j → b 33 i = a 33 i) : spE j a b := ⟨fun k _ _ _ _ _ _ x _ _ => h k x, fun k i hk hi => by
  by_cases q : k = 33
  · rw [q]; exact h' i hi
  · rw [h k q]⟩
theorem rdE.ap {a b c : zI} (h : rdE a b) (h' : apE b c) : rdE a c := ⟨fun k x1 x2 x3 x4 => (h' k x3 x4).trans (h.1 k x1 x2 x3 x4), fun s x1 x2 x3 x4 => by rw [h' 37 (by decide) (by decide)]; exact h.2.1 s x1 x2 x3 x4, fun i hi => by rw [h' 39 (by decide) (by decide)]; exact h.2.2 i hi⟩
/-- what the judge says of a text, and what the reference says of it -/
theorem judge_lock {c : zI} {r : zR} (R : RSc r) {j tp : Int} (hj : 0 ≤ j ∧ j < 2) (h2 : c 2 0 1 = tp) (htp : 0 ≤ tp ∧ tp ≤ 400) (hb : ∀ i, 0 ≤ i → i < tp → -128 ≤ c 3 0 i ∧ c 3 0 i < 128) :
    ∃ (f : Int) (c' : zI), (0 ≤ f ∧ f ≤ 5) ∧ spE j c c' ∧ R1i mX2_faultOf [.inr (some (4, 0)), .inr (some (2, 0)), .inr (some (30, j))] c r f c' ∧
      (f = 0 → c' 4 0 2 = -1 ∧ ∃ ln wd, (1 ≤ ln ∧ ln ≤ 16) ∧ (1 ≤ wd ∧ wd ≤ 16) ∧ c' 30 j 5 = ln * wd ∧ c' 30 j 6 = wd ∧ MpI (c' 31 j) (ln * wd) (c' 30 j 7) (c' 30 j 8) (c' 32 j) (c' 34 j) (c' 35 j) 10 6 ∧ (∀ i d, 0 ≤ i → i < ln * wd → 0 ≤ d → d < 4 → c' 33 j (i * 4 + d) = nbr ln wd (c' 31 j) i d) ∧ (1 ≤ c' 30 j 8 ∧ c' 30 j 8 ≤ 6) ∧ c' 30 j 7 ≤ 10 ∧
        ∀ m, m 37 0 2 = tp → (∀ i, 0 ≤ i → i < tp → m 38 0 i = c 3 0 i) → ∃ m', rdE (zup m 37 0 2 0) m' ∧ (m' 37 0 13 = ln ∧ m' 37 0 14 = wd) ∧ (∀ y u, 0 ≤ y → y < ln → 0 ≤ u → u < wd → m' 39 0 (256 + 16 * y + u) = c' 31 j (y * wd + u)) ∧ ∀ hr, RSm hr → ∀ P : Int → zI → Prop, (∀ a1 a2 a3 u5 u6, WP mX12_read 164 [some (.inr (some (37, 0))), some (.inl a1), some (.inl a2), some (.inl a3), some (.inl 0), u5, u6] [] (zup (zup (zup m' 37 0 4 (-1)) 37 0 5 ln) 37 0 6 wd) hr (zQ1i hr P)) → W1i mX12_read [.inr (some (37, 0))] m hr P) ∧
      (f ≠ 0 → ∀ m, m 37 0 2 = tp → (∀ i, 0 ≤ i → i < tp → m 38 0 i = c 3 0 i) → ∃ m', rdE (zup m 37 0 2 0) m' ∧ m' 37 0 4 = c' 4 0 2 ∧ ∀ hr, RSm hr → R1i mX12_read [.inr (some (37, 0))] m hr f m') := by
  obtain ⟨c1, ec1⟩ : ∃ c1, c1 = zup (zup (zup (zup (zup (zup c 30 j 5 0) 30 j 6 0) 30 j 7 0) 30 j 8 0) 4 0 3 0) 4 0 4 0 := ⟨_, rfl⟩
  have sp1 : spE j c c1 := by rw [ec1]; exact ((((((spE.refl j c).zj (by decide)).zj (by decide)).zj (by decide)).zj (by decide)).z4 (by decide)).z4 (by decide)
  have k2 : c1 2 = c 2 := sp1.1 2 (by decide) (by decide) (by decide) (by decide) (by decide) (by decide) (by decide) (by decide) (by decide)
  have k3 : c1 3 = c 3 := sp1.1 3 (by decide) (by decide) (by decide) (by decide) (by decide) (by decide) (by decide) (by decide) (by decide)
  have z30 : c1 30 j 5 = 0 ∧ c1 30 j 7 = 0 ∧ c1 30 j 8 = 0 := by
    rw [ec1, zup_kf _ _ _ _ (by decide), zup_kf _ _ _ _ (by decide)]
    simp only [zup_at]
    exact ⟨rfl, rfl, rfl⟩
  have C1 : CI j 0 0 1 c1 := by
    refine ⟨by rw [ec1]; rfl, by rw [ec1]; rfl, fun z => absurd z (by omega), by decide, by decide, fun _ => rfl, z30.1, ?_⟩
    rw [z30.2.1, z30.2.2]
    exact MpI.zero _ _ _ _ _ _
  obtain ⟨f, c2, ln, wd, s1, s2, s3, s4, s5⟩ := signs_from (r := r) R hj htp.2 tp.toNat 0 0 0 1 c1 none (by omega) (by omega) (by rw [k2]; exact h2) (by rw [k3]; exact hb) C1
  have pre : ∀ (P : Int → zI → Prop), W1i mX2_faultOfSigns [.inr (some (4, 0)), .inr (some (2, 0)), .inr (some (30, j))] c1 r (fun (x2 : Int) (hi3 : zI) => (x2 ≠ 0 → ((x2 ≠ 0 → ((x2 ≠ 0 → P x2 hi3) ∧ (x2 = 0 → (P x2 (zup hi3 4 0 2 (-1)))))) ∧ (x2 = 0 → (W1i mX2_faultOfWays [.inr (some (4, 0)), .inr (some (30, j))] hi3 r (fun (x7 : Int) (hi8 : zI) => (x7 ≠ 0 → P x7 hi8) ∧ (x7 = 0 → (P x7 (zup hi8 4 0 2 (-1))))))))) ∧ (x2 = 0 → (W1v mX10_joinCells [.inr (some (30, j))] hi3 r (fun (hi16 : zI) => W0i mX2_faultOfNumbers [.inr (some (30, j))] hi16 r (fun (x17 : Int) => (x17 ≠ 0 → ((x17 ≠ 0 → P x17 hi16) ∧ (x17 = 0 → (P x17 (zup hi16 4 0 2 (-1)))))) ∧ (x17 = 0 → (W1i mX2_faultOfWays [.inr (some (4, 0)), .inr (some (30, j))] hi16 r (fun (x21 : Int) (hi22 : zI) => (x21 ≠ 0 → P x21 hi22) ∧ (x21 = 0 → (P x21 (zup hi22 4 0 2 (-1)))))))))))) → W1i mX2_faultOf [.inr (some (4, 0)), .inr (some (2, 0)), .inr (some (30, j))] c r P := by
    intro P hP
    refine GX2_faultOf j hj (GX10_clear j hj ?_)
    rw [← ec1]
    exact hP
  -- where the reference begins
  have start : ∀ m, m 37 0 2 = tp → (∀ i, 0 ≤ i → i < tp → m 38 0 i = c 3 0 i) → ∃ m2, rdE (zup m 37 0 2 0) m2 ∧ m2 37 0 3 = f ∧ (f ≠ 0 → m2 37 0 4 = c2 4 0 2) ∧ (f = 0 → RI j ln 0 wd c2 m2) ∧ ∀ hr, RSm hr → ∀ P : zI → Prop, P m2 → W1v mX12_cuts [.inr (some (37, 0)), .inl (m 37 0 2)] (zup m 37 0 2 0) hr P := by
    intro m hm ht
    obtain ⟨m1, em1⟩ : ∃ m1, m1 = zup (zup (zup (zup m 37 0 2 0) 37 0 3 0) 37 0 13 0) 37 0 14 (-1) := ⟨_, rfl⟩
    have rd1 : rdE (zup m 37 0 2 0) m1 := by rw [em1]; exact (((rdE.refl _).z37 (by decide)).z37 (by decide)).z37 (by decide)
    have k38 : m1 38 = m 38 := by rw [rd1.1 38 (by decide) (by decide) (by decide) (by decide), zup_kf _ _ _ _ (by decide)]
    obtain ⟨m2, d1, d2, d3, d4, d5⟩ := s5 m1 ⟨by rw [em1]; rfl, Or.inl ⟨rfl, by rw [em1]; rfl⟩, by rw [em1]; rfl, fun y u y0 u0 z => by omega⟩ (by rw [k38, k3]; exact ht)
    refine ⟨m2, rd1.trans d1, d2, d3, d4, fun hr hM P hP => ?_⟩
    rw [hm]
    refine GX12_cuts tp ?_
    rw [← em1]
    exact d5 hr hM P none none none hP
  by_cases qf : f = 0
  · obtain ⟨t4, hln, C2⟩ := s3 qf
    obtain ⟨g1, g2, g3, g4, g5, g6, g7, g8⟩ := C2
    obtain ⟨g30, hw1, hw2, -⟩ := g3 (by omega)
    rw [Int.add_zero] at g7 g8
    have hl : 1 ≤ ln ∧ ln ≤ 16 := by omega
    have hw : 1 ≤ wd ∧ wd ≤ 16 := ⟨hw1, hw2⟩
    have mx := mul_bd (a := ln) (b := wd) (A := 16) (B := 16) (by omega) (by omega) (by omega) (by omega)
    obtain ⟨c3, j1, j2, -, j4, j5⟩ := join_from (r := r) R hj hw hl (ln * wd).toNat 0 c2 (by omega) (by omega) g7 g30
    have sp3 : spE j c c3 := (sp1.trans s1).trans (spE.of33 j1 j2)
    have x30 : c3 30 = c2 30 := j1 30 (by decide)
    have x31 : c3 31 = c2 31 := j1 31 (by decide)
    have x32 : c3 32 = c2 32 := j1 32 (by decide)
    have x34 : c3 34 = c2 34 := j1 34 (by decide)
    have x35 : c3 35 = c2 35 := j1 35 (by decide)
    have x4 : c3 4 = c2 4 := j1 4 (by decide)
    have E3 : JE c3 r j ln wd (c2 31 j) := ⟨R, hj, hw, hl, by rw [x30]; exact g7, fun i i0 i1 => ⟨by rw [x31], (g8.2.2.1 i i0 i1).1, fun d d0 d1 => j4 i d i0 i1 d0 d1⟩⟩
    -- the reference counts
    have cnt : ∀ m2, RI j ln 0 wd c2 m2 → AE m2 ln wd (c2 31 j) ∧ ∀ hr, RSm hr → ∀ P : Int → zI → Prop, (∀ u5 u6, WP mX12_read 34 [some (.inr (some (37, 0))), some (.inl tp), some (.inl (c2 30 j 8)), some (.inl (c2 30 j 7)), some (.inl ln), u5, u6] [] m2 hr (zQ1i hr P)) → WP mX12_read 34 [some (.inr (some (37, 0))), some (.inl tp), some (.inl 0), some (.inl 0), some (.inl 0), none, none] [] m2 hr (zQ1i hr P) := by
      intro m2 hR2
      have A : AE m2 ln wd (c2 31 j) := by
        obtain ⟨r1, r2, r3, r4⟩ := hR2
        refine ⟨r1, by omega, hw, hl, fun y u y0 y1 u0 u1 => (r4 y u y0 u0 (Or.inl ⟨y1, u1⟩)).symm, fun i i0 i1 => (g8.2.2.1 i i0 i1).1⟩
      refine ⟨A, fun hr hM P hP => ?_⟩
      have := count_34 A tp hM P (fun u5 u6 => ?_) ln.toNat 0 none none (by omega) (by omega)
      · rw [Int.zero_mul, cnK_0, cnK_0] at this
        exact this
      · rw [← g8.1, ← g8.2.1]
        exact hP u5 u6
    have rd13 : ∀ m2, RI j ln 0 wd c2 m2 → m2 37 0 13 = ln := fun m2 h => h.1
    by_cases qn : (1 ≤ c2 30 j 8 ∧ c2 30 j 8 ≤ 6) ∧ c2 30 j 7 ≤ 10
    · have fn : R0i mX2_faultOfNumbers [.inr (some (30, j))] c3 r 0 := fun P hP => GX2_faultOfNumbers j hj (by rw [x30]; exact ⟨fun z => absurd z (by omega), fun _ => ⟨fun z => absurd z (by omega), fun _ => ⟨fun z => absurd z (by omega), fun _ => hP⟩⟩⟩)
      obtain ⟨x, c4, w1, w2, w3⟩ := ways_from (ln * wd).toNat 0 c3 (by omega) (by omega) E3 (fun p hp hb => by have := hb.1.1; omega)
      have sp4 : spE j c c4 := sp3.trans (spE.of4 w1)
      -- the reference behind its counts
      have ref : ∀ m, m 37 0 2 = tp → (∀ i, 0 ≤ i → i < tp → m 38 0 i = c 3 0 i) → ∃ m2 y m3, rdE (zup m 37 0 2 0) m2 ∧ RI j ln 0 wd c2 m2 ∧ apE (zup m2 37 0 4 tp) m3 ∧ ((y = -1 ∧ ∀ p, ¬ bdW ln wd (c2 31 j) p) ∨ (bdW ln wd (c2 31 j) y ∧ ∀ p, p < y → ¬ bdW ln wd (c2 31 j) p)) ∧ ∀ hr, RSm hr → ∀ P : Int → zI → Prop, (∀ a1 a2 a3 u5 u6, (y = -1 → WP mX12_read 164 [some (.inr (some (37, 0))), some (.inl a1), some (.inl a2), some (.inl a3), some (.inl 0), u5, u6] [] (zup (zup (zup m3 37 0 4 y) 37 0 5 (m3 37 0 13)) 37 0 6 (m3 37 0 14)) hr (zQ1i hr P)) ∧ (y ≠ -1 → P 5 (zup m3 37 0 4 y))) → W1i mX12_read [.inr (some (37, 0))] m hr P := by
        intro m hm ht
        obtain ⟨m2, d1, d2, d3, d4, d5⟩ := start m hm ht
        have hR2 := d4 qf
        obtain ⟨A, ct⟩ := cnt m2 hR2
        have A' : AE (zup m2 37 0 4 tp) ln wd (c2 31 j) := A
        obtain ⟨y, m3, e1, e2, e3⟩ := apart_run A'
        refine ⟨m2, y, m3, d1, hR2, e1, e2, fun hr hM P hP => GX12_read (d5 hr hM _ ⟨fun _ => ?_, fun z => absurd z (by omega)⟩)⟩
        rw [hm]
        refine ct hr hM P (fun u5 u6 => GX12_read_34 tp _ _ ln u5 u6 ⟨fun _ => ⟨fun z => absurd z (by omega), fun _ => ⟨fun z => absurd z (by omega), fun _ => ⟨fun _ => e3 hr hM _ ⟨(hP _ _ _ _ _).1, (hP tp (c2 30 j 8) (c2 30 j 7) u5 u6).2⟩, fun z => absurd z (by omega)⟩⟩⟩, fun z => absurd z (by have := hR2.1; omega)⟩)
      rcases w2 with ⟨ex, nb⟩ | ⟨ex, hbd, hmin⟩
      · -- no fault
        subst ex
        refine ⟨0, zup c4 4 0 2 (-1), by omega, sp4.z4 (by decide), fun P hP => pre P (GX2_faultOfSigns j hj (s4 _ ⟨fun z => absurd qf z, fun _ => GX10_joinCells j hj (j5 _ none none (fn _ ⟨fun z => absurd rfl z, fun _ => GX2_faultOfWays j hj (w3 _ ⟨fun z => absurd rfl z, fun _ => hP⟩)⟩))⟩)), fun _ => ⟨zup_s _ _ _ _ _, ln, wd, hl, hw, ?_⟩, fun z => absurd rfl z⟩
        have y30 : zup c4 4 0 2 (-1) 30 = c2 30 := by rw [zup_kf _ _ _ _ (by decide), w1 30 (by decide) (by decide) (by decide), x30]
        have y31 : zup c4 4 0 2 (-1) 31 = c2 31 := by rw [zup_kf _ _ _ _ (by decide), w1 31 (by decide) (by decide) (by decide), x31]
        have y32 : zup c4 4 0 2 (-1) 32 = c2 32 := by rw [zup_kf _ _ _ _ (by decide), w1 32 (by decide) (by decide) (by decide), x32]
        have y33 : zup c4 4 0 2 (-1) 33 = c3 33 := by rw [zup_kf _ _ _ _ (by decide), w1 33 (by decide) (by decide) (by decide)]
        have y34 : zup c4 4 0 2 (-1) 34 = c2 34 := by rw [zup_kf _ _ _ _ (by decide), w1 34 (by decide) (by decide) (by decide), x34]
        have y35 : zup c4 4 0 2 (-1) 35 = c2 35 := by rw [zup_kf _ _ _ _ (by decide), w1 35 (by decide) (by decide) (by decide), x35]
        rw [y30, y31, y32, y33, y34, y35]
        refine ⟨g7, g30, g8, fun i d i0 i1 d0 d1 => j4 i d i0 i1 d0 d1, qn.1, qn.2, fun m hm ht => ?_⟩
        obtain ⟨m2, y, m3, r1, r2, r3, r4, r5⟩ := ref m hm ht
        have ey : y = -1 := by
          rcases r4 with z | z
          · exact z.1
          · exact absurd z.1 (nb y)
        have k37 : m3 37 = zup m2 37 0 4 tp 37 := r3 37 (by decide) (by decide)
        have k39 : m3 39 = m2 39 := by rw [r3 39 (by decide) (by decide), zup_kf _ _ _ _ (by decide)]
        have e13 : m3 37 0 13 = ln := by rw [k37, zup_f _ _ _ _ _ _ (by decide)]; exact r2.1
        have e14 : m3 37 0 14 = wd := by rw [k37, zup_f _ _ _ _ _ _ (by decide)]; have := r2.2.1; omega
        refine ⟨m3, (r1.z37 (by decide)).ap r3, ⟨e13, e14⟩, fun yy u b1 b2 b3 b4 => ?_, fun hr hM P hP => r5 hr hM P (fun a1 a2 a3 u5 u6 => ⟨fun _ => ?_, fun z => absurd ey z⟩)⟩
        · rw [k39]
          exact (r2.2.2.2 yy u b1 b3 (Or.inl ⟨b2, b4⟩)).symm
        · rw [ey, e13, e14]
          exact hP a1 a2 a3 u5 u6
      · -- no way
        subst ex
        refine ⟨5, c4, by omega, sp4, fun P hP => pre P (GX2_faultOfSigns j hj (s4 _ ⟨fun z => absurd qf z, fun _ => GX10_joinCells j hj (j5 _ none none (fn _ ⟨fun z => absurd rfl z, fun _ => GX2_faultOfWays j hj (w3 _ ⟨fun _ => hP, fun z => absurd z (by decide)⟩)⟩))⟩)), fun z => absurd z (by decide), fun _ m hm ht => ?_⟩
        obtain ⟨m2, y, m3, r1, r2, r3, r4, r5⟩ := ref m hm ht
        have ey : bdW ln wd (c2 31 j) y ∧ ∀ p, p < y → ¬ bdW ln wd (c2 31 j) p := by
          rcases r4 with z | z
          · exact absurd hbd (z.2 _)
          · exact z
        have ec : y = c4 4 0 2 := by
          by_cases z : y < c4 4 0 2
          · exact absurd ey.1 (hmin y z)
          · by_cases z' : c4 4 0 2 < y
            · exact absurd hbd (ey.2 _ z')
            · omega
        have yn : y ≠ -1 := by have := ey.1.1.1; omega
        exact ⟨zup m3 37 0 4 y, ((r1.z37 (by decide)).ap r3).z37 (by decide), by rw [zup_s]; exact ec, fun hr hM P hP => r5 hr hM P (fun a1 a2 a3 u5 u6 => ⟨fun z => absurd z yn, fun _ => hP⟩)⟩
    · -- wrong numbers
      have fn : R0i mX2_faultOfNumbers [.inr (some (30, j))] c3 r 4 := fun P hP => GX2_faultOfNumbers j hj (by rw [x30]; exact ⟨fun _ => hP, fun _ => ⟨fun _ => hP, fun _ => ⟨fun _ => hP, fun z => absurd ⟨by omega, z⟩ qn⟩⟩⟩)
      have b8 := cnK_le 3 (c2 31 j) (show (0 : Int) ≤ 0 by omega) (show (0 : Int) ≤ ln * wd by omega)
      rw [cnK_0, ← g8.2.1] at b8
      refine ⟨4, c3, by omega, sp3, fun P hP => pre P (GX2_faultOfSigns j hj (s4 _ ⟨fun z => absurd qf z, fun _ => GX10_joinCells j hj (j5 _ none none (fn _ ⟨fun _ => ⟨fun _ => hP, fun z => absurd z (by decide)⟩, fun z => absurd z (by decide)⟩))⟩)), fun z => absurd z (by decide), fun _ m hm ht => ?_⟩
      obtain ⟨m2, d1, d2, d3, d4, d5⟩ := start m hm ht
      have hR2 := d4 qf
      obtain ⟨A, ct⟩ := cnt m2 hR2
      refine ⟨zup m2 37 0 4 tp, d1.z37 (by decide), by rw [zup_s, x4, t4], fun hr hM P hP => GX12_read (d5 hr hM _ ⟨fun _ => ?_, fun z => absurd z (by omega)⟩)⟩
      rw [hm]
      refine ct hr hM P (fun u5 u6 => GX12_read_34 tp _ _ ln u5 u6 ⟨fun _ => ⟨fun _ => hP, fun z => ⟨fun _ => hP, fun z2 => ⟨fun z3 => absurd ⟨⟨by omega, z2⟩, z3⟩ qn, fun _ => hP⟩⟩⟩, fun z => absurd z (by have := hR2.1; omega)⟩)
  · -- a fault of the signs
    refine ⟨f, c2, by omega, sp1.trans s1, fun P hP => pre P (GX2_faultOfSigns j hj (s4 _ ⟨fun _ => ⟨fun _ => ⟨fun _ => hP, fun z => absurd z qf⟩, fun z => absurd z qf⟩, fun z => absurd z qf⟩)), fun z => absurd z qf, fun _ m hm ht => ?_⟩
    obtain ⟨m2, d1, d2, d3, d4, d5⟩ := start m hm ht
    refine ⟨m2, d1, d3 qf, fun hr hM P hP => GX12_read (d5 hr hM _ ⟨fun z => absurd z (by omega), fun _ => ?_⟩)⟩
    rw [d2]
    exact hP
