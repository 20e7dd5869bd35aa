theorem grant_from {r : zR} {vn : Int} : ∀ (n : Nat) (v : Int) (c m0 : zI), c 17 0 2 = vn → v + n = vn → 0 ≤ v → Rl 6 6 (6 + v) 1 1 c r m0 → ∃ c', lowE c c' ∧ c' 1 = c 1 ∧ c' 11 = c 11 ∧
    (∀ (P : zI → Prop) u4 u5, P c' → WP mX1_sendGrants 2 [some (.inr (some (17, 0))), some (.inr (some (7, 0))), some (.inl (c 1 0 9)), some (.inl v), u4, u5] [] c r (zQ1v r P)) ∧
    ∀ m, Rl 6 6 (6 + v) 1 1 c r m → ∃ m', hiE m m' ∧ (∀ hr, RSm hr → ∀ (P : Int → zI → Prop) a1 a2, P a1 m' → WP mX12_baseActs 261 [some (.inr (some (37, 0))), some (.inl a1), some (.inl a2), some (.inl v)] [] m hr (zQ1i hr P)) ∧ Rl 6 6 (6 + vn) 1 1 c' r m' := by
  intro n
  induction n with
  | zero =>
    intro v c m0 hc hn hv h0
    have e : v = vn := by omega
    subst e
    refine ⟨c, lowE.refl c, rfl, rfl, fun P u4 u5 hP => GX1_sendGrants_2 h0.1 _ v u4 u5 ⟨fun _ => hP, fun z => absurd z (by omega)⟩, fun m h => ⟨m, hiE.refl m, fun hr hM P a1 a2 hP => ?_, h⟩⟩
    have nn := h.num
    exact GX12_baseActs_261 a1 a2 v ⟨fun _ => hP, fun z => absurd z (by omega)⟩
  | succ n ih =>
    intro v c m0 hc hn hv h0
    obtain ⟨c1, d1, d2, d3, d4, d5, d6⟩ := grant1 h0 ⟨hv, by omega⟩
    obtain ⟨m1, -, -, q⟩ := d6 m0 h0
    obtain ⟨c2, e1, e2, e3, e4, e5⟩ := ih (v + 1) c1 m1 (by rw [d2]; exact hc) (by omega) (by omega) q
    refine ⟨c2, d1.trans e1, e2.trans d3, e3.trans d4, fun P u4 u5 hP => d5 P u4 u5 (fun u4' u5' => ?_), fun m h => ?_⟩
    · have := e4 P u4' u5' hP
      rw [d3] at this
      exact this
    · obtain ⟨m', x1, x2, x3⟩ := d6 m h
      obtain ⟨m'', y1, y2, y3⟩ := e5 m' x3
      have nn := h.num
      exact ⟨m'', x1.trans y1, fun hr hM P a1 a2 hP => GX12_baseActs_261 a1 a2 v ⟨fun z => absurd z (by omega), fun _ => x2 hr hM _ ⟨⟨by omega, by omega⟩, y2 hr hM P a1 a2 hP⟩⟩, y3⟩
/-- the base grants -/
theorem grant_all {c m0 : zI} {r : zR} (h0 : Rl 6 6 6 1 1 c r m0) : ∃ c', lowE c c' ∧ c' 1 = c 1 ∧ c' 11 = c 11 ∧ R1v mX1_sendGrants [.inr (some (17, 0)), .inr (some (7, 0)), .inl (c 1 0 9)] c r c' ∧
    ∀ m, Rl 6 6 6 1 1 c r m → ∃ m', hiE m m' ∧ (∀ hr, RSm hr → ∀ (P : Int → zI → Prop) a1 a2, P a1 m' → WP mX12_baseActs 261 [some (.inr (some (37, 0))), some (.inl a1), some (.inl a2), some (.inl 0)] [] m hr (zQ1i hr P)) ∧ Rl 6 6 12 1 1 c' r m' := by
  have nn := h0.num
  obtain ⟨c', e1, e2, e3, e4, e5⟩ := grant_from (r := r) (vn := c 17 0 2) (c 17 0 2).toNat 0 c m0 rfl (by omega) (by omega) h0
  refine ⟨c', e1, e2, e3, fun P hP => GX1_sendGrants _ (e4 P none none hP), fun m h => ?_⟩
  obtain ⟨m', x1, x2, x3⟩ := e5 m h
  exact ⟨m', x1, x2, x3.mono (by omega) (by omega) (by omega) (by omega)⟩
/-- the clock goes on -/
theorem Rl.tick {c m : zI} {r : zR} (h : Rl 6 6 12 1 1 c r m) (ht : m 37 0 61 + 1 ≤ 600) : RLb (zup c 1 0 9 (c 1 0 9 + 1)) r (zup m 37 0 61 (m 37 0 61 + 1)) := by
  obtain ⟨h1, h2, h3, h4, h5, h6, h7, h8, h9, h10, h11, h12, h13, h14⟩ := h
  obtain ⟨s1, s2, s3, s4, s5, s6, s7, s8, s9, s10, s11, s12, s13⟩ := h4
  refine ⟨h1, h2, h3, ?_, h5, h6, ?_, h8, ?_, ?_, ?_, h12, ?_, ⟨h14.1.1, fun q => ?_⟩, h14.2⟩
  · refine ⟨?_, ?_, ?_, s4, s5, ?_, s7, s8, ?_, s10, s11, s12, s13⟩
    · show c 1 0 9 + 1 = m 37 0 61 + 1
      rw [s1]
    · show 0 ≤ m 37 0 61 + 1
      omega
    · show m 37 0 61 + 1 ≤ 600
      omega
    · show m 37 0 53 ≤ 6 * (m 37 0 61 + 1) + 0
      omega
    · show m 37 0 35 ≤ 12 * (m 37 0 61 + 1) + 0
      omega
  · obtain ⟨k1, k2, k3, k4, k5, k6⟩ := h7
    refine ⟨k1, k2, k3, k4, ?_, k6⟩
    show m 37 0 21 ≤ 6 * (m 37 0 61 + 1) + 0
    omega
  · intro v a b
    obtain ⟨u1, u2, u3, u4, u5, u6, u7, u8, u9⟩ := h9 v a b
    refine ⟨u1, u2, u3, u4, u5, u6, u7, ?_, u9⟩
    show c 36 v 5 ≤ m 37 0 61 + 1 + 0
    omega
  · intro v a b
    obtain ⟨w1, w2, w3, w4, w5, w6, w7, w8, w9⟩ := h10 v a b
    refine ⟨w1, w2, w3, w4, w5, w6, w7, ?_, w9⟩
    show m 80 0 v ≤ m 37 0 61 + 1
    omega
  · intro v a b
    obtain ⟨r1, r2, r3, r4, r5, r6, r7, r8, r9⟩ := h11 v a b
    refine ⟨r1, r2, r3, r4, r5, r6, r7, r8, ?_⟩
    rcases r9 with r9 | ⟨q1, q2, q3, q4, q5, q6, q7⟩
    · exact Or.inl r9
    · refine Or.inr ⟨q1, q2, q3, q4, q5, ?_, q7⟩
      show m 52 0 v ≤ m 37 0 61 + 1
      omega
  · obtain ⟨pi, nm, g1, g2, g3, g4, g5, g6, g7⟩ := h13
    refine ⟨pi, nm, g1, g2, g3, g4, g5, fun i a b => ?_, g7⟩
    obtain ⟨k1, k2, k3, k4, k5, k6, k7, k8⟩ := g6 i a b
    refine ⟨k1, k2, k3, k4, ?_, ?_, ?_, k8⟩
    · show m 37 0 61 + 1 + 0 ≤ c 10 (pi i) 5
      omega
    · show c 10 (pi i) 5 + c 10 (pi i) 6 ≤ m 37 0 61 + 1 + 6
      omega
    · show m 37 0 35 - nm i ≤ 12 * (m 37 0 61 + 1 + 6 - (c 10 (pi i) 5 + c 10 (pi i) 6)) + 0
      omega
  · obtain ⟨z1, z2, z3, z4⟩ := h14.1.2 q
    refine ⟨z1, z2, z3, fun t ht' => z4 t ?_⟩
    have : m 37 0 61 + 1 ≤ t := ht'
    omega
theorem zup19 (c : zI) (x : Int) : zup c 1 0 9 x 1 0 9 = x := zup_s _ _ _ _ _
/-- one tick -/
theorem tick_all {c m0 : zI} {r : zR} (h0 : RLb c r m0) (ht : c 1 0 9 + 1 ≤ 600) : ∃ (c' : zI) (r' : zR) (d : Int), lowE c c' ∧ (0 ≤ d ∧ d ≤ 6) ∧ c' 11 0 7 = c 11 0 7 + d ∧ c' 1 0 9 = c 1 0 9 + 1 ∧
    (∀ (P : Int → zI → zR → Prop) l1 a2 a3, a3 < l1 → zInR (a3 + 1) → WP mX11_run 35 [some (.inr (some (1, 0))), some (.inl l1), some (.inl a2), some (.inl (a3 + 1))] [] c' r' (zQ2i P) → WP mX11_run 35 [some (.inr (some (1, 0))), some (.inl l1), some (.inl a2), some (.inl a3)] [] c r (zQ2i P)) ∧
    ∀ m, RLb c r m → ∃ m', hiE m m' ∧ (∀ hr, RSm hr → ∀ (P : Int → zI → Prop) l1 a2 a3 u4, a3 < l1 → zInR (a3 + 1) → 0 ≤ a2 → a2 ≤ 1000 → (∀ u4, WP mX12_run 29 [some (.inr (some (37, 0))), some (.inl l1), some (.inl (a2 + d)), some (.inl (a3 + 1)), u4] [] m' hr (zQ1i hr P)) → WP mX12_run 29 [some (.inr (some (37, 0))), some (.inl l1), some (.inl a2), some (.inl a3), u4] [] m hr (zQ1i hr P)) ∧ RLb c' r' m' := by
  obtain ⟨c1, r1, a1, a2, a3, a4, a5⟩ := take_all h0
  obtain ⟨M1, -, -, h1⟩ := a5 m0 h0
  obtain ⟨c2, b1, b2, b3, b4⟩ := drive_all h1
  obtain ⟨M2, -, -, h2⟩ := b4 M1 h1
  obtain ⟨c3, d, d0, d6, e1, e2, e3, e4, e5⟩ := fin_all h2
  obtain ⟨M3, -, -, h3⟩ := e5 M2 h2
  obtain ⟨jm, c4, r4, f1, f2, f3, f4, f5, f6⟩ := hand_all h3
  obtain ⟨M4, -, -, h4⟩ := f6 M3 h3
  obtain ⟨c5, g1, g2, g3, g4, g5⟩ := grant_all h4
  obtain ⟨M5, -, -, h5⟩ := g5 M4 h4
  have t1 : c1 1 = c 1 := a3 1 (by decide) (by decide) (by decide) (by decide)
  have t11 : c1 11 = c 11 := a3 11 (by decide) (by decide) (by decide) (by decide)
  have tk5 : c5 1 0 9 = c 1 0 9 := by rw [g2, f4.2, e2, b2.1, t1]
  have n5 := h5.num
  refine ⟨zup c5 1 0 9 (c5 1 0 9 + 1), r4, d, ((((a1.trans b1).trans e3).trans f3).trans g1).zup (by decide), ⟨d0, d6⟩, ?_, ?_, fun P l1 x2 x3 hlt hz hP => ?_, fun m h => ?_⟩
  · rw [zup_kf _ _ _ _ (by decide), g3, f4.1, e1, b2.2, t11]
  · rw [zup19, tk5]
  · refine GX11_run_35 h0.1 l1 x2 x3 ⟨fun z => absurd z (by omega), fun _ => a4 _ ⟨h1.1, b3 _ (e4 _ ⟨jm, f1, f2, f5 _ ⟨h4.1, g4 _ ⟨⟨by omega, by omega⟩, hz, hP⟩⟩⟩)⟩⟩
  · obtain ⟨m1, i1, i2, i3⟩ := a5 m h
    obtain ⟨m2, j1, j2, j3⟩ := b4 m1 i3
    obtain ⟨m3, k1, k2, k3⟩ := e5 m2 j3
    obtain ⟨m4, l1, l2, l3⟩ := f6 m3 k3
    obtain ⟨m5, p1, p2, p3⟩ := g5 m4 l3
    have nm5 := p3.num
    refine ⟨zup m5 37 0 61 (m5 37 0 61 + 1), ((((i1.trans j1).trans k1).trans l1).trans p1).zup (by decide), fun hr hM P x1 x2 x3 u4 hlt hz y1 y2 hP => ?_, ?_⟩
    · refine GX12_run_29 x1 x2 x3 u4 ⟨fun z => absurd z (by omega), fun _ => i2 hr hM _ (j2 hr hM P x1 x2 x3 ?_)⟩
      refine GX12_run_41 x1 x2 x3 _ ⟨fun _ => k2 hr hM _ (l2 hr hM _ d none (fun z2 => p2 hr hM _ d z2 ⟨⟨by omega, by omega⟩, ⟨by omega, by omega⟩, hz, hP _⟩)), fun z => absurd z (by omega)⟩
    · exact p3.tick (by omega)
/-- ticks -/
theorem ticks_all : ∀ (n : Nat) (c m0 : zI) (r : zR), RLb c r m0 → c 1 0 9 + n ≤ 600 → ∃ (c' : zI) (r' : zR) (d : Int), lowE c c' ∧ (0 ≤ d ∧ d ≤ 6 * n) ∧ c' 11 0 7 = c 11 0 7 + d ∧
    (∀ (P : Int → zI → zR → Prop) (l1 a2 a3 : Int), a3 + n = l1 → 0 ≤ a3 → l1 ≤ 50 → P (c' 11 0 7 - a2) c' r' → zInR (c' 11 0 7 - a2) → WP mX11_run 35 [some (.inr (some (1, 0))), some (.inl l1), some (.inl a2), some (.inl a3)] [] c r (zQ2i P)) ∧
    ∀ m, RLb c r m → ∃ m', hiE m m' ∧ (∀ hr, RSm hr → ∀ (P : Int → zI → Prop) (l1 a2 a3 : Int) u4, a3 + n = l1 → 0 ≤ a3 → l1 ≤ 50 → 0 ≤ a2 → a2 ≤ 6 * a3 → P (a2 + d) m' → WP mX12_run 29 [some (.inr (some (37, 0))), some (.inl l1), some (.inl a2), some (.inl a3), u4] [] m hr (zQ1i hr P)) ∧ RLb c' r' m' := by
  intro n
  induction n with
  | zero =>
    intro c m0 r h0 ht
    refine ⟨c, r, 0, lowE.refl c, by omega, by omega, fun P l1 a2 a3 e x y hP hz => GX11_run_35 h0.1 l1 a2 a3 ⟨fun _ => ⟨hz, hP⟩, fun z => absurd z (by omega)⟩, fun m h => ⟨m, hiE.refl m, fun hr hM P l1 a2 a3 u4 e x y z w hP => ?_, h⟩⟩
    rw [Int.add_zero] at hP
    exact GX12_run_29 l1 a2 a3 u4 ⟨fun _ => hP, fun z => absurd z (by omega)⟩
  | succ n ih =>
    intro c m0 r h0 ht
    obtain ⟨c1, r1, d1, a1, a2, a3, a4, a5, a6⟩ := tick_all h0 (by omega)
    obtain ⟨M1, -, -, h1⟩ := a6 m0 h0
    obtain ⟨c2, r2, d2, b1, b2, b3, b4, b5⟩ := ih c1 M1 r1 h1 (by omega)
    refine ⟨c2, r2, d1 + d2, a1.trans b1, by omega, by omega, fun P l1 x2 x3 e x y hP hz => a5 P l1 x2 x3 (by omega) ⟨by omega, by omega⟩ (b4 P l1 x2 (x3 + 1) (by omega) (by omega) y hP hz), fun m h => ?_⟩
    obtain ⟨m1, c1', c2', c3'⟩ := a6 m h
    obtain ⟨m2, e1, e2, e3⟩ := b5 m1 c3'
    refine ⟨m2, c1'.trans e1, fun hr hM P l1 x2 x3 u4 e x y z w hP => c2' hr hM P l1 x2 x3 u4 (by omega) ⟨by omega, by omega⟩ z (by omega) (fun u4' => e2 hr hM P l1 (x2 + d1) (x3 + 1) u4' (by omega) (by omega) y (by omega) (by omega) ?_), e3⟩
    rw [Int.add_assoc]
    exact hP
theorem SimI.of2 {y y' : zM} {vs : List zV} {hi : zI} {hr hr' : zR} {x : Int} {c' m' : zI} (h1 : R2i y (.inr (some (1, 0)) :: vs) hi hr x c' hr') (h2 : R1i y' (.inr (some (37, 0)) :: vs) c' hr' x m') (h3 : RLb m' hr' m') : SimI y y' vs hi hr := by
  intro K hK
  refine WPm.mono (h1 (fun x1 h h' => x1 = x ∧ h = c' ∧ h' = hr') ⟨rfl, rfl, rfl⟩) (fun r hi1 hr1 q => ?_)
  obtain ⟨x1, rfl, hx, -, rfl, rfl, rfl⟩ := q
  refine ⟨x1, rfl, WPm.mono (h2 (fun x2 h => x2 = x1 ∧ h = m') ⟨rfl, rfl⟩) (fun r2 hi2 hr2 q => ?_)⟩
  obtain ⟨x2, rfl, hx2, rfl, rfl, rfl⟩ := q
  exact ⟨rfl, hK _ _ _ h3⟩
theorem sim_run {hi : zI} {hr : zR} (h : RLb hi hr hi) (l : Int) (hl : zInR l) : SimI mX11_run mX12_run [.inl l] hi hr := by
  have R := h.1
  have nn := h.num
  have zl : zInR (hi 1 0 9 + l) → True := fun _ => trivial
  by_cases q1 : 1 ≤ l ∧ l ≤ 50 ∧ hi 1 0 9 + l ≤ 600
  · obtain ⟨c', r', d, a1, a2, a3, a4, a5⟩ := ticks_all l.toNat hi hi hr h (by omega)
    obtain ⟨m', b1, b2, b3⟩ := a5 c' (h.onM a1)
    have hM : RSm r' := b3.2.1
    have e61 : c' 37 0 61 = hi 37 0 61 := by rw [a1 37 (by decide)]
    refine SimI.of2 (x := d) (c' := c') (hr' := r') (m' := m') (fun P hP => GX11_run R l ⟨fun z => absurd z (by omega), fun _ => ⟨fun z => absurd z (by omega), fun _ => ⟨⟨by omega, by omega⟩, fun _ => a4 P l _ 0 (by omega) (by omega) (by omega) ?_ ⟨by omega, by omega⟩, fun z => absurd z (by omega)⟩⟩⟩) (fun P hP => GX12_run l ⟨fun z => absurd z (by omega), fun _ => ⟨fun z => absurd z (by omega), fun _ => ⟨⟨by omega, by omega⟩, fun _ => b2 r' hM P l 0 0 none (by omega) (by omega) (by omega) (by omega) (by omega) ?_, fun z => absurd z (by omega)⟩⟩⟩) (b3.onC b1)
    · rw [a3, zacl]; exact hP
    · rw [Int.zero_add]; exact hP
  · by_cases q2 : 1 ≤ l ∧ l ≤ 50
    · refine SimI.of2 (x := -1) (c' := hi) (hr' := hr) (m' := hi) (fun P hP => GX11_run R l ⟨fun _ => hP, fun _ => ⟨fun _ => hP, fun _ => ⟨⟨by omega, by omega⟩, fun z => absurd z (by omega), fun _ => hP⟩⟩⟩) (fun P hP => GX12_run l ⟨fun _ => hP, fun _ => ⟨fun _ => hP, fun _ => ⟨⟨by omega, by omega⟩, fun z => absurd z (by omega), fun _ => hP⟩⟩⟩) h
    · refine SimI.of2 (x := -1) (c' := hi) (hr' := hr) (m' := hi) (fun P hP => GX11_run R l ⟨fun _ => hP, fun z => ⟨fun _ => hP, fun z2 => absurd ⟨z, z2⟩ q2⟩⟩) (fun P hP => GX12_run l ⟨fun _ => hP, fun z => ⟨fun _ => hP, fun z2 => absurd ⟨z, z2⟩ q2⟩⟩) h
