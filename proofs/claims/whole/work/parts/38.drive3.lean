/-- the message that a related state's radio takes next -/
theorem Rl.slot {f a s l : Int} {c m : zI} {r : zR} (h : Rl f a s l 1 c r m) (hs : 0 ≤ s ∧ s ≤ 11) : ∃ pj, r 9 0 (c 7 0 3) = some (10, pj) ∧ 0 ≤ pj ∧ pj < 64 ∧ 0 ≤ c 7 0 3 ∧ c 7 0 3 < 60 := by
  obtain ⟨h1, h2, h3, h4, h5, h6, h7, h8, h9, h10, h11, h12, h13, h14⟩ := h
  have hq := h13.room hs.2 hs.1
  obtain ⟨pi, nm, g1, -⟩ := h13
  exact ⟨pi (c 7 0 3), (g1 _ hq.1 (by omega)).1, (g1 _ hq.1 (by omega)).2.1, (g1 _ hq.1 (by omega)).2.2, hq.1, by omega⟩
theorem send_step {f a s l : Int} {c m0 : zI} {r : zR} (h0 : Rl f a s l 1 c r m0) (hs : 0 ≤ s ∧ s ≤ 11) {g v p x cl : Int} (hg : g = 0 ∨ g = 1) :
    ∃ c', lowE c c' ∧ (∀ k, k ≠ 7 → k ≠ 10 → c' k = c k) ∧ R1v mX5_send [.inr (some (7, 0)), .inl (c 1 0 9), .inl g, .inl v, .inl p, .inl x, .inl cl] c r c' ∧
      ∀ m, Rl f a s l 1 c r m → 0 ≤ v ∧ v < m 37 0 10 → (g = 0 → 0 ≤ p ∧ 0 ≤ x ∧ (p < m 69 0 v ∨ (p = m 69 0 v ∧ x ≤ m 70 0 v))) →
        (g = 1 → 1 ≤ p ∧ p ≤ m 77 0 v ∧ 1 ≤ x ∧ (p = m 77 0 v → x ≤ m 54 0 v ∧ cl = m 55 0 (301 * v + x)) ∧ (p ≠ m 77 0 v → p = m 69 0 v → x ≤ m 70 0 v)) →
        ∃ m', hiE m m' ∧ (∀ hr, RSm hr → R1v mX12_sends [.inr (some (37, 0)), .inl (1 - g), .inl v, .inl p, .inl x, .inl cl] m hr m') ∧ Rl f a (s + 1) l 1 c' r m' := by
  obtain ⟨pj, p1, p2, p3, p4, p5⟩ := h0.slot hs
  have fact : ∀ m, Rl f a s l 1 c r m → (1 ≤ m 37 0 17 ∧ m 37 0 17 ≤ 64) ∧ c 7 0 2 = m 37 0 17 ∧ c 7 0 4 = m 37 0 35 ∧ c 7 0 5 = m 37 0 36 ∧ (0 ≤ m 37 0 35 ∧ m 37 0 35 ≤ 10000) ∧ (0 ≤ m 37 0 36 ∧ m 37 0 36 ≤ 10000) ∧ (0 ≤ m 37 0 61 ∧ m 37 0 61 ≤ 600) ∧ c 1 0 9 = m 37 0 61 ∧ (0 ≤ m 37 0 37 ∧ m 37 0 37 ≤ 200) ∧ c 8 0 (c 7 0 4 % c 7 0 2) = m 45 0 (m 37 0 35 % m 37 0 17) ∧ 0 ≤ m 45 0 (m 37 0 35 % m 37 0 17) ∧ m 45 0 (m 37 0 35 % m 37 0 17) ≤ 15 := by
    intro m h
    obtain ⟨h1, h2, h3, h4, h5, h6, h7, h8, h9, h10, h11, h12, h13, h14⟩ := h
    obtain ⟨s1, s2, s3, s4, s5, s6, s7, s8, s9, s10, s11, s12, s13⟩ := h4
    obtain ⟨f1, f2, f3, f4⟩ := h6
    have hq := h13.room hs.2 hs.1
    have a1 := Int.emod_nonneg (m 37 0 35) (show m 37 0 17 ≠ 0 by omega)
    have a2 := Int.emod_lt_of_pos (m 37 0 35) (show 0 < m 37 0 17 by omega)
    have := f4 _ a1 a2
    rw [s7, f1]
    exact ⟨⟨f2, f3⟩, rfl, rfl, s10, ⟨s8, by omega⟩, ⟨s11, by omega⟩, ⟨s2, s3⟩, s1, ⟨by omega, by omega⟩, this⟩
  obtain ⟨b1, b2, b3, b4, b5, b6, b7, b8, b9, b10, b11, b12⟩ := fact m0 h0
  refine ⟨_, ?_, ?_, send_run h0.1 (f := c 8 0 (c 7 0 4 % c 7 0 2)) (by omega) (by omega) (by omega) rfl (by omega) (by omega) p1 ⟨p2, p3⟩ hg (by omega), ?_⟩
  · intro k hk
    split
    · unfold cLost; rw [zup_kf _ _ _ _ (by omega), zup_kf _ _ _ _ (by omega)]
    · unfold cSnd
      rw [zup_kf _ _ _ _ (by omega), zup_kf _ _ _ _ (by omega), zup_kf _ _ _ _ (by omega), zup_kf _ _ _ _ (by omega), zup_kf _ _ _ _ (by omega), zup_kf _ _ _ _ (by omega), zup_kf _ _ _ _ (by omega), zup_kf _ _ _ _ (by omega), zup_kf _ _ _ _ (by omega)]
  · intro k hk hk'
    split
    · unfold cLost; rw [zup_kf _ _ _ _ hk, zup_kf _ _ _ _ hk]
    · unfold cSnd
      rw [zup_kf _ _ _ _ hk', zup_kf _ _ _ _ hk', zup_kf _ _ _ _ hk', zup_kf _ _ _ _ hk', zup_kf _ _ _ _ hk', zup_kf _ _ _ _ hk', zup_kf _ _ _ _ hk', zup_kf _ _ _ _ hk, zup_kf _ _ _ _ hk]
  · intro m h hv hrep hgr
    obtain ⟨d1, d2, d3, d4, d5, d6, d7, d8, d9, d10, d11, d12⟩ := fact m h
    refine ⟨_, ?_, fun hr hM => sends_run hM (f := m 45 0 (m 37 0 35 % m 37 0 17)) d1 d5 d6 rfl ⟨d11, d12⟩ d9 d7, ?_⟩
    · have mr : ∀ (n : zI) (t i so v p x cl : Int), hiE m n → hiE m (mRow n t i so v p x cl) := fun n t i so v p x cl q => by
        unfold mRow
        exact (((((((q.zup (by decide)).zup (by decide)).zup (by decide)).zup (by decide)).zup (by decide)).zup (by decide)).zup (by decide)).zup (by decide)
      split
      · exact ((hiE.refl m).zup (by decide)).zup (by decide)
      · split
        · exact mr _ _ _ _ _ _ _ _ ((hiE.refl m).zup (by decide))
        · exact mr _ _ _ _ _ _ _ _ (mr _ _ _ _ _ _ _ _ ((hiE.refl m).zup (by decide)))
    · rw [d10, d8]
      exact send_rel h hs ⟨d11, d12⟩ p1 hg hv hrep hgr
/-- one vehicle's moment -/
theorem drive1 {v : Int} {c m0 : zI} {r : zR} (h0 : Rl 0 v v 1 1 c r m0) (hv : 0 ≤ v ∧ v < c 17 0 2) : ∃ c', lowE c c' ∧ (c' 1 0 9 = c 1 0 9 ∧ c' 11 = c 11) ∧ c' 17 0 2 = c 17 0 2 ∧
    (∀ (P : zI → Prop) u2 u3, (∀ u2' u3', WP mX11_driveVehicles 2 [some (.inr (some (1, 0))), some (.inl (v + 1)), u2', u3'] [] c' r (zQ1v r P)) → WP mX11_driveVehicles 2 [some (.inr (some (1, 0))), some (.inl v), u2, u3] [] c r (zQ1v r P)) ∧
    ∀ m, Rl 0 v v 1 1 c r m → ∃ m', hiE m m' ∧ (∀ hr, RSm hr → R1v mX12_vehicleActs [.inr (some (37, 0)), .inl v] m hr m') ∧ Rl 0 (v + 1) (v + 1) 1 1 c' r m' := by
  have fact : ∀ m, Rl 0 v v 1 1 c r m → c 17 0 2 = m 37 0 10 ∧ v < 6 ∧ c 1 0 9 = m 37 0 61 ∧ 0 ≤ m 37 0 61 ∧ m 37 0 61 ≤ 600 ∧ c 36 v 1 = m 69 0 v ∧ c 36 v 2 = m 70 0 v ∧ c 36 v 3 = m 71 0 v ∧ (m 71 0 v = 0 ∨ m 71 0 v = 1) ∧ c 36 v 5 = m 73 0 v ∧ 0 ≤ m 69 0 v ∧ 0 ≤ m 70 0 v ∧ m 70 0 v ≤ 300 ∧ (m 71 0 v = 1 → m 69 0 v = m 77 0 v) ∧ 0 ≤ m 68 0 v ∧ m 68 0 v ≤ 2 ∧ 0 ≤ m 37 0 53 ∧ m 37 0 53 ≤ 4000 ∧ c 1 0 10 = m 37 0 53 ∧ (m 71 0 v = 1 → c 36 v 4 = m 72 0 v) := by
    intro m h
    obtain ⟨h1, h2, h3, h4, h5, h6, h7, h8, h9, h10, h11, h12, h13, h14⟩ := h
    obtain ⟨s1, s2, s3, s4, s5, s6, s7, s8, s9, s10, s11, s12, s13⟩ := h4
    obtain ⟨jm, -, -, -, p⟩ := h8
    have p8 := p.2.2.2.2.2.2.2.2.2.2.2.1
    obtain ⟨u1, u2, u3, u4, u5, u6, u7, u8, u9⟩ := h9 v hv.1 (by omega)
    obtain ⟨w1, w2, w3, w4, w5, w6, -⟩ := h12 v hv.1 (by omega)
    refine ⟨s13, by omega, s1, s2, s3, u2, u3, u4, u5, u9 (by omega), w2, w3, w4, fun q => ?_, ?_, ?_, s5, by omega, s4, u6⟩
    · by_cases z : m 69 0 v = m 77 0 v
      · exact z
      · have := (w6 z).1; omega
    · by_cases z : m 69 0 v = m 77 0 v
      · rw [(w5 z).2.2]; (repeat' split) <;> decide
      · rw [(w6 z).2]; decide
    · by_cases z : m 69 0 v = m 77 0 v
      · rw [(w5 z).2.2]; (repeat' split) <;> decide
      · rw [(w6 z).2]; decide
  obtain ⟨b1, b2, b3, b4, b5, b6, b7, b8, b9, b10, b11, b12, b13, b14, b15, b16, b17, b18, b19, b20⟩ := fact m0 h0
  have hj := h0.2.2.2.2.2.2.2.1
  obtain ⟨jm, j1, j2, -, p⟩ := hj
  have pv : c 30 jm 8 = m0 37 0 10 := p.2.2.2.1
  have pv6 : m0 37 0 10 ≤ 6 := p.2.2.2.2.2.2.2.2.2.2.2.1
  by_cases act : c 36 v 3 = 1 ∧ c 36 v 5 < 10
  · -- it acts
    have h1 := obey_rel h0 (v := v) (by omega) (by omega)
    obtain ⟨c', e1, e2, e3, e4⟩ := send_step (g := 0) (v := v) (p := c 36 v 1) (x := c 36 v 2 + 1) (cl := -1) h1 ⟨hv.1, by omega⟩ (Or.inl rfl)
    have c9 : cOb c v 1 0 9 = c 1 0 9 := by rw [cOb_1]; rfl
    have low : lowE c (cOb c v) := fun k hk => cOb_k c v (by omega) (by omega)
    refine ⟨c', low.trans e1, ⟨by rw [e2 1 (by decide) (by decide)]; exact c9, by rw [e2 11 (by decide) (by decide), cOb_k c v (by decide) (by decide)]⟩, ?_, fun P u2 u3 hP => ?_, fun m hm => ?_⟩
    · rw [e2 17 (by decide) (by decide), cOb_k c v (by decide) (by decide)]
    · refine GX11_driveVehicles_2 h0.1 v u2 u3 ⟨jm, j2, by omega, fun q => absurd q (by omega), fun _ => ?_⟩
      refine vehicleAt_run h0.1 (by omega) j2 (by omega) (some (36, v)) (Or.inl ⟨hv.1, by omega, rfl⟩) _ ⟨(by intro q; cases q), fun w q => ⟨v, (by injection q with q; exact q.symm), ?_⟩⟩
      refine GX9_obey v ⟨hv.1, b2⟩ ⟨fun q => absurd q (by omega), fun _ => halts_run ⟨hv.1, b2⟩ 0 (Or.inr ⟨rfl, act.2⟩) _ ⟨fun _ => ?_, fun q => absurd rfl q⟩⟩
      have go : ∀ hi45 : zI, cOb c v = zup hi45 1 0 10 (c 1 0 10 + 1) → hi45 1 0 10 = c 1 0 10 → hi45 1 0 9 = c 1 0 9 → hi45 36 v 1 = c 36 v 1 → hi45 36 v 2 = c 36 v 2 + 1 → zInR (hi45 1 0 10 + 1) ∧ ((1 : Int) ≠ 0 → (W1v mX5_send [.inr (some (7, 0)), .inl (hi45 1 0 9), .inl 0, .inl v, .inl (hi45 36 v 1), .inl (hi45 36 v 2), .inl (-1)] (zup hi45 1 0 10 ((hi45 1 0 10) + 1)) r (fun (hi56 : zI) => (zInR (v + 1)) ∧ (WP mX11_driveVehicles 2 [some (.inr (some (1, 0))), some (.inl (v + 1)), some (.inr (some (36, v))), some (.inl 1)] [] hi56 r (zQ1v r P))))) := by
        intro hi45 q0 q1 q2 q3 q4
        rw [q1, q2, q3, q4, ← q0, ← c9]
        exact ⟨⟨by omega, by omega⟩, fun _ => e3 _ ⟨⟨by omega, by omega⟩, hP _ _⟩⟩
      refine ⟨fun q => ⟨⟨by omega, by omega⟩, fun z => absurd z (by decide), fun _ => ?_⟩, fun q => ⟨⟨by omega, by omega⟩, fun z => absurd z (by decide), fun _ => ?_⟩⟩
      · obtain ⟨z1, z2⟩ := go (zup (zup c 36 v 2 (c 36 v 2 + 1)) 36 v 3 0) (by unfold cOb; rw [if_pos q]) rfl rfl (by rw [zup_f _ _ _ _ _ _ (by decide), zup_f _ _ _ _ _ _ (by decide)]) (by rw [zup_f _ _ _ _ _ _ (by decide), zup_s])
        exact ⟨z1, z2, fun z => absurd z (by decide)⟩
      · obtain ⟨z1, z2⟩ := go (zup (zup (zup c 36 v 0 (c 36 v 4)) 36 v 2 (c 36 v 2 + 1)) 36 v 3 0) (by unfold cOb; rw [if_neg q]) rfl rfl (by rw [zup_f _ _ _ _ _ _ (by decide), zup_f _ _ _ _ _ _ (by decide), zup_f _ _ _ _ _ _ (by decide)]) (by rw [zup_f _ _ _ _ _ _ (by decide), zup_s])
        exact ⟨z1, z2, fun z => absurd z (by decide)⟩
    · obtain ⟨d1, d2, d3, d4, d5, d6, d7, d8, d9, d10, d11, d12, d13, d14, d15, d16, d17, d18, d19, d20⟩ := fact m hm
      have hg : m 71 0 v = 1 := by omega
      have h2 := obey_rel hm (v := v) (by omega) hg
      have k37 : mOb m v 37 0 10 = m 37 0 10 := by rw [mOb_37]; rfl
      have k69 : mOb m v 69 0 v = m 69 0 v := by rw [mOb_k m v (by decide) (by decide) (by decide) (by decide) (by decide)]
      have k70 : mOb m v 70 0 v = m 70 0 v + 1 := by rw [mOb_70, if_pos rfl]
      obtain ⟨m', i1, i2, i3⟩ := e4 _ h2 (by omega) (fun _ => by omega) (fun q => absurd q (by decide))
      refine ⟨m', fun k hk => (i1 k hk).trans (mOb_k m v (by omega) (by omega) (by omega) (by omega) (by omega)), fun hr hM P hP => ?_, i3⟩
      have hw := i2 hr hM P hP
      rw [d6, d7] at hw
      have v6 : 0 ≤ v ∧ v < 6 := ⟨hv.1, b2⟩
      refine GX12_vehicleActs hM v ⟨v6, fun q => absurd q (by omega), fun _ => ⟨v6, fun q => absurd q (by omega), fun _ => ⟨v6, v6, ⟨by omega, by omega⟩, v6, ⟨by omega, by omega⟩, v6, fun q => ⟨v6, v6, v6, v6, fun z => absurd (d14 hg) z, fun _ => ⟨v6, v6, fun z => ⟨v6, v6, ?_⟩, fun z => ⟨v6, v6, v6, ?_⟩⟩⟩, fun q => ⟨v6, ⟨by omega, by omega⟩, v6, v6, v6, fun z => absurd (d14 hg) z, fun _ => ⟨v6, v6, fun z => ⟨v6, v6, ?_⟩, fun z => ⟨v6, v6, v6, ?_⟩⟩⟩⟩⟩⟩
      all_goals (unfold mOb mOb1 mOb0 at hw)
      · rw [if_neg z, if_neg q] at hw; exact hw
      · rw [if_pos z, if_neg q] at hw; exact hw
      · rw [if_neg z, if_pos q] at hw; exact hw
      · rw [if_pos z, if_pos q] at hw; exact hw
  · -- it does not
    have h1 := h0.mono (f' := 0) (a' := v + 1) (s' := v) (l' := 1) (by omega) (by omega) (by omega) (by omega)
    have obey : R1i mX9_obey [.inr (some (36, v))] c r 0 c := by
      intro P hP
      refine GX9_obey v ⟨hv.1, b2⟩ ⟨fun _ => hP, fun q => halts_run ⟨hv.1, b2⟩ 1 (Or.inl ⟨rfl, by omega⟩) _ ⟨fun z => absurd z (by decide), fun _ => hP⟩⟩
    by_cases even : c 1 0 9 % 2 = 0
    · obtain ⟨c', e1, e2, e3, e4⟩ := send_step (g := 0) (v := v) (p := c 36 v 1) (x := c 36 v 2) (cl := -1) h1 ⟨hv.1, by omega⟩ (Or.inl rfl)
      refine ⟨c', e1, ⟨by rw [e2 1 (by decide) (by decide)], by rw [e2 11 (by decide) (by decide)]⟩, ?_, fun P u2 u3 hP => ?_, fun m hm => ?_⟩
      · rw [e2 17 (by decide) (by decide)]
      · refine GX11_driveVehicles_2 h0.1 v u2 u3 ⟨jm, j2, by omega, fun q => absurd q (by omega), fun _ => ?_⟩
        refine vehicleAt_run h0.1 (by omega) j2 (by omega) (some (36, v)) (Or.inl ⟨hv.1, by omega, rfl⟩) _ ⟨(by intro q; cases q), fun w q => ⟨v, (by injection q with q; exact q.symm), ?_⟩⟩
        exact obey _ ⟨fun _ => ⟨fun z => absurd rfl z, fun _ => ⟨by omega, fun z => absurd even z, fun _ => e3 _ ⟨⟨by omega, by omega⟩, hP _ _⟩⟩⟩, fun z => absurd rfl z⟩
      · obtain ⟨d1, d2, d3, d4, d5, d6, d7, d8, d9, d10, d11, d12, d13, d14, d15, d16, d17, d18, d19, d20⟩ := fact m hm
        obtain ⟨m', i1, i2, i3⟩ := e4 _ (hm.mono (f' := 0) (a' := v + 1) (s' := v) (l' := 1) (by omega) (by omega) (by omega) (by omega)) (by omega) (fun _ => by omega) (fun q => absurd q (by decide))
        refine ⟨m', i1, fun hr hM P hP => ?_, i3⟩
        have hw := i2 hr hM P hP
        rw [d6, d7] at hw
        have v6 : 0 ≤ v ∧ v < 6 := ⟨hv.1, b2⟩
        exact GX12_vehicleActs hM v ⟨v6, fun q => ⟨d4, fun z => absurd z (by omega), fun _ => ⟨v6, v6, hw⟩⟩, fun q => ⟨v6, fun _ => ⟨d4, fun z => absurd z (by omega), fun _ => ⟨v6, v6, hw⟩⟩, fun z => absurd act (by omega)⟩⟩
    · refine ⟨c, lowE.refl c, ⟨rfl, rfl⟩, rfl, fun P u2 u3 hP => ?_, fun m hm => ?_⟩
      · refine GX11_driveVehicles_2 h0.1 v u2 u3 ⟨jm, j2, by omega, fun q => absurd q (by omega), fun _ => ?_⟩
        refine vehicleAt_run h0.1 (by omega) j2 (by omega) (some (36, v)) (Or.inl ⟨hv.1, by omega, rfl⟩) _ ⟨(by intro q; cases q), fun w q => ⟨v, (by injection q with q; exact q.symm), ?_⟩⟩
        exact obey _ ⟨fun _ => ⟨fun z => absurd rfl z, fun _ => ⟨by omega, fun _ => ⟨⟨by omega, by omega⟩, hP _ _⟩, fun z => absurd z even⟩⟩, fun z => absurd rfl z⟩
      · obtain ⟨d1, d2, d3, d4, d5, d6, d7, d8, d9, d10, d11, d12, d13, d14, d15, d16, d17, d18, d19, d20⟩ := fact m hm
        have v6 : 0 ≤ v ∧ v < 6 := ⟨hv.1, b2⟩
        refine ⟨m, hiE.refl m, fun hr hM P hP => ?_, hm.mono (by omega) (by omega) (by omega) (by omega)⟩
        exact GX12_vehicleActs hM v ⟨v6, fun q => ⟨d4, fun _ => hP, fun z => absurd z (by omega)⟩, fun q => ⟨v6, fun _ => ⟨d4, fun _ => hP, fun z => absurd z (by omega)⟩, fun z => absurd act (by omega)⟩⟩
/-- all vehicles -/
theorem drive_from : ∀ (n : Nat) (v : Int) (c m0 : zI) (r : zR), 0 ≤ v → v + n = c 17 0 2 → Rl 0 v v 1 1 c r m0 → ∃ c', lowE c c' ∧ (c' 1 0 9 = c 1 0 9 ∧ c' 11 = c 11) ∧ c' 17 0 2 = c 17 0 2 ∧
    (∀ (P : zI → Prop) u2 u3, P c' → WP mX11_driveVehicles 2 [some (.inr (some (1, 0))), some (.inl v), u2, u3] [] c r (zQ1v r P)) ∧
    ∀ m, Rl 0 v v 1 1 c r m → ∃ m', hiE m m' ∧ (∀ hr, RSm hr → ∀ (P : Int → zI → Prop) l1 a2 a3, WP mX12_run 41 [some (.inr (some (37, 0))), some (.inl l1), some (.inl a2), some (.inl a3), some (.inl (c 17 0 2))] [] m' hr (zQ1i hr P) → WP mX12_run 41 [some (.inr (some (37, 0))), some (.inl l1), some (.inl a2), some (.inl a3), some (.inl v)] [] m hr (zQ1i hr P)) ∧ Rl 0 (c 17 0 2) (c 17 0 2) 1 1 c' r m' := by
  intro n
  induction n with
  | zero =>
    intro v c m0 r hv hn h0
    have e : v = c 17 0 2 := by omega
    have hj := h0.2.2.2.2.2.2.2.1
    obtain ⟨jm, j1, j2, -, p⟩ := hj
    have pv : c 30 jm 8 = m0 37 0 10 := p.2.2.2.1
    have ps : c 17 0 2 = m0 37 0 10 := h0.2.2.2.1.2.2.2.2.2.2.2.2.2.2.2.2
    refine ⟨c, lowE.refl c, ⟨rfl, rfl⟩, rfl, fun P u2 u3 hP => ?_, fun m hm => ⟨m, hiE.refl m, fun hr hM P l1 a2 a3 hw => ?_, ?_⟩⟩
    · exact GX11_driveVehicles_2 h0.1 v u2 u3 ⟨jm, j2, by omega, fun _ => hP, fun q => absurd q (by omega)⟩
    · rw [e]; exact hw
    · rw [← e]; exact hm
  | succ n ih =>
    intro v c m0 r hv hn h0
    obtain ⟨c1, e1, e0, e2, e3, e4⟩ := drive1 h0 ⟨hv, by omega⟩
    obtain ⟨m1, i1, i2, i3⟩ := e4 m0 h0
    obtain ⟨c2, f1, f0, f2, f3, f4⟩ := ih (v + 1) c1 m1 r (by omega) (by omega) i3
    refine ⟨c2, e1.trans f1, ⟨f0.1.trans e0.1, f0.2.trans e0.2⟩, f2.trans e2, fun P u2 u3 hP => e3 P u2 u3 (fun u2' u3' => f3 P u2' u3' hP), fun m hm => ?_⟩
    obtain ⟨m2, k1, k2, k3⟩ := e4 m hm
    obtain ⟨m3, l1, l2, l3⟩ := f4 m2 k3
    rw [e2] at l2 l3
    have ps : c 17 0 2 = m 37 0 10 := hm.2.2.2.1.2.2.2.2.2.2.2.2.2.2.2.2
    have p6 : m 37 0 10 ≤ 6 := hm.2.2.2.2.2.2.2.1.elim (fun _ q => q.2.2.2.2.2.2.2.2.2.2.2.2.2.2.1)
    refine ⟨m3, k1.trans l1, fun hr hM P x1 x2 x3 hw => ?_, l3⟩
    refine GX12_run_41 x1 x2 x3 v ⟨fun q => absurd q (by omega), fun _ => k2 hr hM _ ⟨⟨by omega, by omega⟩, l2 hr hM P x1 x2 x3 hw⟩⟩
theorem drive_all {c m0 : zI} {r : zR} (h0 : Rl 0 0 0 1 1 c r m0) : ∃ c', lowE c c' ∧ (c' 1 0 9 = c 1 0 9 ∧ c' 11 = c 11) ∧ R1v mX11_driveVehicles [.inr (some (1, 0))] c r c' ∧
    ∀ m, Rl 0 0 0 1 1 c r m → ∃ m', hiE m m' ∧ (∀ hr, RSm hr → ∀ (P : Int → zI → Prop) l1 a2 a3, WP mX12_run 41 [some (.inr (some (37, 0))), some (.inl l1), some (.inl a2), some (.inl a3), some (.inl (m' 37 0 10))] [] m' hr (zQ1i hr P) → WP mX12_run 41 [some (.inr (some (37, 0))), some (.inl l1), some (.inl a2), some (.inl a3), some (.inl 0)] [] m hr (zQ1i hr P)) ∧ Rl 0 6 6 1 1 c' r m' := by
  have ps : c 17 0 2 = m0 37 0 10 := h0.2.2.2.1.2.2.2.2.2.2.2.2.2.2.2.2
  have p0 : 1 ≤ m0 37 0 10 ∧ m0 37 0 10 ≤ 6 := h0.2.2.2.2.2.2.2.1.elim (fun _ q => ⟨q.2.2.2.2.2.2.2.2.2.2.2.2.2.1, q.2.2.2.2.2.2.2.2.2.2.2.2.2.2.1⟩)
  obtain ⟨c', e1, e0, e2, e3, e4⟩ := drive_from (c 17 0 2).toNat 0 c m0 r (by omega) (by omega) h0
  refine ⟨c', e1, e0, fun P hP => GX11_driveVehicles (e3 P _ _ hP), fun m hm => ?_⟩
  obtain ⟨m', i1, i2, i3⟩ := e4 m hm
  have ps' : c' 17 0 2 = m' 37 0 10 := i3.2.2.2.1.2.2.2.2.2.2.2.2.2.2.2.2
  refine ⟨m', i1, ?_, ?_⟩
  · rw [← ps', e2]; exact i2
  · exact i3.mono (by omega) (by omega) (by omega) (by omega)
