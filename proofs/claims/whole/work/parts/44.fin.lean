theorem Rl.ended {v f a s l e : Int} {c m : zI} {r : zR} (h : Rl f a s l e c r m) (hv : 0 ≤ v ∧ v < 6) (hvn : v < m 37 0 10) (h74 : m 74 0 v = 0) (hd : m 54 0 v ≤ knF (m 75 0) (m 76 0) (m 77 0) v) : Rl (f + 1) a s l e (zup (zup (zup c 16 0 (c 24 v 2) (c 1 0 9)) 11 0 7 (c 11 0 7 + 1)) 24 v 2 (-1)) r (zup (zup (zup (zup m 74 0 v 1) 50 0 (m 78 0 v) (m 37 0 61)) 78 0 v (-1)) 37 0 21 (m 37 0 21 + 1)) := by
  obtain ⟨h1, h2, h3, h4, h5, h6, h7, h8, h9, h10, h11, h12, h13, h14⟩ := h
  have hA := h10 v hv.1 hv.2
  have et := hA.2.1
  have ek := h4.1
  refine ⟨h1, h2, h3, h4, h5, h6, ?_, h8, h9, ?_, h11, h12, h13, h14.1, ?_⟩
  · obtain ⟨k1, k2, k3, k4, k5, k6, k7, k8, k9⟩ := h7
    refine ⟨k1, k2, ?_, ?_, ?_, k6, k7, k8, fun i a b => ?_⟩
    · show c 11 0 7 + 1 = m 37 0 21 + 1
      rw [k3]
    · show 0 ≤ m 37 0 21 + 1
      omega
    · show m 37 0 21 + 1 ≤ 6 * m 37 0 61 + (f + 1)
      omega
    · obtain ⟨q1, q2, q3, q4, q5, q6⟩ := k9 i a b
      refine ⟨q1, q2, q3, q4, ?_, q6⟩
      show zup c 16 0 (c 24 v 2) (c 1 0 9) 16 0 i = zup m 50 0 (m 78 0 v) (m 37 0 61) 50 0 i
      rw [zup_at, zup_at, et, ek, q5]
  · intro u a b
    have hu := h10 u a b
    show zup c 24 v 2 (-1) 24 u 1 = _ ∧ zup c 24 v 2 (-1) 24 u 2 = zup m 78 0 v (-1) 78 0 u ∧ zup c 24 v 2 (-1) 24 u 3 = _ ∧ zup c 24 v 2 (-1) 24 u 4 = _ ∧ zup c 24 v 2 (-1) 24 u 5 = _ ∧ zup c 24 v 2 (-1) 24 u 6 = _ ∧ _ ∧ _ ∧ ((zup m 74 0 v 1 74 0 u = 1 ∧ zup m 78 0 v (-1) 78 0 u = -1) ∨ (zup m 74 0 v 1 74 0 u = 0 ∧ 0 ≤ zup m 78 0 v (-1) 78 0 u ∧ zup m 78 0 v (-1) 78 0 u < m 37 0 19)) ∧ (m 37 0 10 ≤ u → zup m 74 0 v 1 74 0 u = 1)
    by_cases q : u = v
    · subst q
      simp only [zup_at]
      simp
      obtain ⟨w1, w2, w3, w4, w5, w6, w7, w8, w9, w10⟩ := hu
      exact ⟨w1, w3, w4, w5, w6, w7, w8⟩
    · simp only [zup_j _ _ _ _ _ _ q, zup_f _ _ _ _ _ _ q]
      exact hu
  · intro u x y
    have hu := h14.2 u x y
    refine ⟨hu.1, fun z => ?_⟩
    by_cases e : u = v
    · subst e
      obtain ⟨w1, w2, w3, w4, w5, w6, w7, w8, w9, w10⟩ := h12 u x y
      obtain ⟨r1, r2, r3, r4, r5, r6, r7, r8, r9⟩ := h11 u x y
      show m 69 0 u = m 77 0 u ∧ m 54 0 u ≤ m 70 0 u
      unfold knF at hd
      by_cases q : m 75 0 u = m 77 0 u
      · rw [if_pos q] at hd
        omega
      · rw [if_neg q] at hd
        rcases r9 with r9 | r9 <;> omega
    · have z' : zup m 74 0 v 1 74 0 u = 1 := z
      rw [zup_f _ _ _ _ _ _ e] at z'
      exact hu.2 z'
theorem fin_step {v : Int} {c m0 : zI} {r : zR} (h0 : Rl v 6 6 1 1 c r m0) (hv : 0 ≤ v ∧ v < c 17 0 2) : ∃ c' d, 0 ≤ d ∧ d ≤ 1 ∧ c' 11 0 7 = c 11 0 7 + d ∧ c' 17 = c 17 ∧ c' 1 = c 1 ∧ lowE c c' ∧
    (∀ (P : zI → Prop) u4, (∀ u4', WP mX1_noteFinished 2 [some (.inr (some (17, 0))), some (.inr (some (11, 0))), some (.inl (c 1 0 9)), some (.inl (v + 1)), u4'] [] c' r (zQ1v r P)) → WP mX1_noteFinished 2 [some (.inr (some (17, 0))), some (.inr (some (11, 0))), some (.inl (c 1 0 9)), some (.inl v), u4] [] c r (zQ1v r P)) ∧
    ∀ m, Rl v 6 6 1 1 c r m → ∃ m', hiE m m' ∧ (∀ hr, RSm hr → ∀ (P : Int → zI → Prop) a1, 0 ≤ a1 → a1 ≤ 1000 → WP mX12_baseActs 4 [some (.inr (some (37, 0))), some (.inl (a1 + d)), some (.inl (v + 1)), none] [] m' hr (zQ1i hr P) → WP mX12_baseActs 4 [some (.inr (some (37, 0))), some (.inl a1), some (.inl v), none] [] m hr (zQ1i hr P)) ∧ Rl (v + 1) 6 6 1 1 c' r m' := by
  have fact : ∀ m, Rl v 6 6 1 1 c r m → c 17 0 2 = m 37 0 10 ∧ v < 6 ∧ c 1 0 9 = m 37 0 61 ∧ 0 ≤ m 37 0 61 ∧ m 37 0 61 ≤ 600 ∧ c 24 v 2 = m 78 0 v ∧ ((m 74 0 v = 1 ∧ m 78 0 v = -1) ∨ (m 74 0 v = 0 ∧ 0 ≤ m 78 0 v ∧ m 78 0 v < m 37 0 19)) ∧ m 37 0 19 ≤ 60 ∧ c 11 0 5 = m 37 0 19 ∧ c 11 0 7 = m 37 0 21 ∧ 0 ≤ m 37 0 21 ∧ m 37 0 21 ≤ 10000 ∧ c 25 v 5 = m 54 0 v ∧ (if c 24 v 3 = c 24 v 1 then c 24 v 4 else 0) = knF (m 75 0) (m 76 0) (m 77 0) v := by
    intro m h
    obtain ⟨h1, h2, h3, h4, h5, h6, h7, h8, h9, h10, h11, h12, h13, h14⟩ := h
    obtain ⟨s1, s2, s3, s4, s5, s6, s7, s8, s9, s10, s11, s12, s13⟩ := h4
    obtain ⟨jm, -, -, -, p⟩ := h8
    have p8 := p.2.2.2.2.2.2.2.2.2.2.2.1
    obtain ⟨w1, w2, w3, w4, w5, w6, w7, w8, w9, w10⟩ := h10 v hv.1 (by omega)
    obtain ⟨k1, k2, k3, k4, k5, k6, k7, k8, k9⟩ := h7
    have hr := h11 v hv.1 (by omega)
    unfold knF
    rw [w3, w1, w4]
    exact ⟨s13, by omega, s1, s2, s3, w2, w9, k8, k1, k3, k4, by omega, hr.2.1, rfl⟩
  obtain ⟨b1, b2, b3, b4, b5, b6, b7, b8, b9, b10, b11, b12, b13, b14⟩ := fact m0 h0
  have hR := h0.1
  have v6 : 0 ≤ v ∧ v < 6 := ⟨hv.1, b2⟩
  have zv : zInR (v + 1) := ⟨by omega, by omega⟩
  by_cases q : c 24 v 2 = -1
  · refine ⟨c, 0, by omega, by omega, by omega, rfl, rfl, lowE.refl c, fun P u4 hP => GX1_noteFinished_2 hR _ v u4 ⟨fun z => absurd z (by omega), fun _ => ⟨v6, isIdle_run v6 1 (Or.inl ⟨rfl, q⟩) _ ⟨fun _ => ⟨zv, hP _⟩, fun z => absurd z (by decide)⟩⟩⟩, fun m h => ?_⟩
    obtain ⟨d1, d2, d3, d4, d5, d6, d7, d8, d9, d10, d11, d12, d13, d14⟩ := fact m h
    refine ⟨m, hiE.refl m, fun hr hM P a1 x1 x2 hP => GX12_baseActs_4 hM a1 v ⟨fun z => absurd z (by omega), fun _ => ⟨v6, fun _ => ⟨zv, ?_⟩, fun z => absurd z (by omega)⟩⟩, h.mono (by omega) (by omega) (by omega) (by omega)⟩
    rw [Int.add_zero] at hP
    exact hP
  · by_cases q' : c 25 v 5 ≤ (if c 24 v 3 = c 24 v 1 then c 24 v 4 else 0)
    · refine ⟨zup (zup (zup c 16 0 (c 24 v 2) (c 1 0 9)) 11 0 7 (c 11 0 7 + 1)) 24 v 2 (-1), 1, by omega, by omega, rfl, rfl, rfl, (((lowE.refl c).zup (by decide)).zup (by decide)).zup (by decide), fun P u4 hP => GX1_noteFinished_2 hR _ v u4 ⟨fun z => absurd z (by omega), fun _ => ⟨v6, isIdle_run v6 0 (Or.inr ⟨rfl, q⟩) _ ⟨fun z => absurd rfl z, fun _ => isDoneWhole_run hR v6 rfl 1 (Or.inl ⟨rfl, q'⟩) _ ⟨fun z => absurd z (by decide), fun _ => GX8_finish hR _ _ (GX8_has _ ⟨fun z => absurd z (by omega), fun _ => ⟨fun z => absurd z (by omega), fun _ => ⟨fun z => absurd z (by omega), fun _ => ⟨fun z => absurd z (by decide), fun _ => ⟨by omega, ⟨by omega, by omega⟩, zv, hP _⟩⟩⟩⟩⟩)⟩⟩⟩⟩, fun m h => ?_⟩
      obtain ⟨d1, d2, d3, d4, d5, d6, d7, d8, d9, d10, d11, d12, d13, d14⟩ := fact m h
      have h74 : m 74 0 v = 0 := by omega
      refine ⟨zup (zup (zup (zup m 74 0 v 1) 50 0 (m 78 0 v) (m 37 0 61)) 78 0 v (-1)) 37 0 21 (m 37 0 21 + 1), ((((hiE.refl m).zup (by decide)).zup (by decide)).zup (by decide)).zup (by decide), fun hr hM P a1 x1 x2 hP => GX12_baseActs_4 hM a1 v ⟨fun z => absurd z (by omega), fun _ => ⟨v6, fun z => absurd h74 z, fun _ => known_run hM v6 _ ⟨v6, fun _ => ⟨v6, v6, by omega, v6, ⟨by omega, by omega⟩, ⟨by omega, by omega⟩, zv, hP⟩, fun z => absurd z (by omega)⟩⟩⟩, h.ended v6 (by omega) h74 (by omega)⟩
    · refine ⟨c, 0, by omega, by omega, by omega, rfl, rfl, lowE.refl c, fun P u4 hP => GX1_noteFinished_2 hR _ v u4 ⟨fun z => absurd z (by omega), fun _ => ⟨v6, isIdle_run v6 0 (Or.inr ⟨rfl, q⟩) _ ⟨fun z => absurd rfl z, fun _ => isDoneWhole_run hR v6 rfl 0 (Or.inr ⟨rfl, by omega⟩) _ ⟨fun _ => ⟨zv, hP _⟩, fun z => absurd rfl z⟩⟩⟩⟩, fun m h => ?_⟩
      obtain ⟨d1, d2, d3, d4, d5, d6, d7, d8, d9, d10, d11, d12, d13, d14⟩ := fact m h
      refine ⟨m, hiE.refl m, fun hr hM P a1 x1 x2 hP => GX12_baseActs_4 hM a1 v ⟨fun z => absurd z (by omega), fun _ => ⟨v6, fun z => absurd z (by omega), fun _ => known_run hM v6 _ ⟨v6, fun z => absurd z (by omega), fun _ => ⟨zv, ?_⟩⟩⟩⟩, h.mono (by omega) (by omega) (by omega) (by omega)⟩
      rw [Int.add_zero] at hP
      exact hP
theorem fin_from {r : zR} {vn : Int} : ∀ (n : Nat) (v : Int) (c m0 : zI), c 17 0 2 = vn → v + n = vn → 0 ≤ v → Rl v 6 6 1 1 c r m0 → ∃ (c' : zI) (d : Int), 0 ≤ d ∧ d ≤ (n : Int) ∧ c' 11 0 7 = c 11 0 7 + d ∧ c' 1 = c 1 ∧ lowE c c' ∧
    (∀ (P : zI → Prop) u4, P c' → WP mX1_noteFinished 2 [some (.inr (some (17, 0))), some (.inr (some (11, 0))), some (.inl (c 1 0 9)), some (.inl v), u4] [] c r (zQ1v r P)) ∧
    ∀ m, Rl v 6 6 1 1 c r m → ∃ m', hiE m m' ∧ (∀ hr, RSm hr → ∀ (P : Int → zI → Prop) (a1 : Int), 0 ≤ a1 → a1 + n ≤ 1000 → WP mX12_baseActs 88 [some (.inr (some (37, 0))), some (.inl (a1 + d)), some (.inl 1), none] [] m' hr (zQ1i hr P) → WP mX12_baseActs 4 [some (.inr (some (37, 0))), some (.inl a1), some (.inl v), none] [] m hr (zQ1i hr P)) ∧ Rl vn 6 6 1 1 c' r m' := by
  intro n
  induction n with
  | zero =>
    intro v c m0 hc hn hv h0
    have e : v = vn := by omega
    subst e
    refine ⟨c, 0, by omega, by omega, by omega, rfl, lowE.refl c, fun P u4 hP => GX1_noteFinished_2 h0.1 _ v u4 ⟨fun _ => hP, fun z => absurd z (by omega)⟩, fun m h => ⟨m, hiE.refl m, fun hr hM P a1 x1 x2 hP => GX12_baseActs_4 hM a1 v ⟨fun _ => ?_, fun z => ?_⟩, h⟩⟩
    · rw [Int.add_zero] at hP
      exact hP
    · have : c 17 0 2 = m 37 0 10 := h.2.2.2.1.2.2.2.2.2.2.2.2.2.2.2.2
      omega
  | succ n ih =>
    intro v c m0 hc hn hv h0
    obtain ⟨c1, d, d0, d1, d2, d3, d4, d5, d6, d7⟩ := fin_step h0 ⟨hv, by omega⟩
    obtain ⟨m1, -, -, q⟩ := d7 m0 h0
    obtain ⟨c2, e, e0, e1, e2, e2', e3, e4, e5⟩ := ih (v + 1) c1 m1 (by rw [d3]; exact hc) (by omega) (by omega) q
    refine ⟨c2, d + e, by omega, by omega, by omega, e2'.trans d4, d5.trans e3, fun P u4 hP => d6 P u4 (fun u4' => ?_), fun m h => ?_⟩
    · have := e4 P u4' hP
      rw [d4] at this
      exact this
    · obtain ⟨m', x1, x2, x3⟩ := d7 m h
      obtain ⟨m'', y1, y2, y3⟩ := e5 m' x3
      refine ⟨m'', x1.trans y1, fun hr hM P a1 z1 z2 hP => x2 hr hM P a1 z1 (by omega) (y2 hr hM P (a1 + d) (by omega) (by omega) ?_), y3⟩
      rw [Int.add_assoc]
      exact hP
/-- the base hears of ends -/
theorem fin_all {c m0 : zI} {r : zR} (h0 : Rl 0 6 6 1 1 c r m0) : ∃ c' d, 0 ≤ d ∧ d ≤ 6 ∧ c' 11 0 7 = c 11 0 7 + d ∧ c' 1 = c 1 ∧ lowE c c' ∧ R1v mX1_noteFinished [.inr (some (17, 0)), .inr (some (11, 0)), .inl (c 1 0 9)] c r c' ∧
    ∀ m, Rl 0 6 6 1 1 c r m → ∃ m', hiE m m' ∧ (∀ hr, RSm hr → ∀ (P : Int → zI → Prop), WP mX12_baseActs 88 [some (.inr (some (37, 0))), some (.inl d), some (.inl 1), none] [] m' hr (zQ1i hr P) → W1i mX12_baseActs [.inr (some (37, 0))] m hr P) ∧ Rl 6 6 6 1 1 c' r m' := by
  have hv : 1 ≤ c 17 0 2 ∧ c 17 0 2 ≤ 6 := by
    obtain ⟨h1, h2, h3, h4, h5, h6, h7, h8, h9, h10, h11, h12, h13, h14⟩ := h0
    obtain ⟨s1, s2, s3, s4, s5, s6, s7, s8, s9, s10, s11, s12, s13⟩ := h4
    obtain ⟨jm, -, -, -, p⟩ := h8
    have p7 := p.2.2.2.2.2.2.2.2.2.2.1
    have p8 := p.2.2.2.2.2.2.2.2.2.2.2.1
    omega
  obtain ⟨c', d, d0, d1, d2, d2', d3, d4, d5⟩ := fin_from (c 17 0 2).toNat 0 c m0 rfl (by omega) (by omega) h0
  refine ⟨c', d, d0, by omega, d2, d2', d3, fun P hP => GX1_noteFinished _ (d4 P none hP), fun m h => ?_⟩
  obtain ⟨m', x1, x2, x3⟩ := d5 m h
  refine ⟨m', x1, fun hr hM P hP => GX12_baseActs (x2 hr hM P 0 (by omega) (by omega) ?_), x3.mono (by omega) (by omega) (by omega) (by omega)⟩
  rw [Int.zero_add]
  exact hP
