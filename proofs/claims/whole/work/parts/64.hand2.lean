theorem GivePlan {c : zI} {r : zR} (R : RSc r) {jm v gi tk A B : Int} (hj : 0 ≤ jm ∧ jm < 2) (hv : 0 ≤ v ∧ v < 6) (hg : 0 ≤ gi ∧ gi < c 11 0 5 ∧ gi < 60) (hs : c 30 jm 7 ≤ 10) (hA : 0 ≤ c 12 0 gi ∧ c 12 0 gi < c 30 jm 7 ∧ A = c 34 jm (c 12 0 gi)) (hB : 0 ≤ c 13 0 gi ∧ c 13 0 gi < c 30 jm 7 ∧ B = c 34 jm (c 13 0 gi)) (nh : ¬ (c 17 0 3 = gi ∧ c 17 0 4 = v)) (P : Int → zI → zR → Prop)
    (K : W2i mX4_findTrip [.inr (some (19, 0)), .inr (some (30, jm)), .inr (some (18, 0)), .inl v, .inl A, .inl B, .inl tk] c r (fun (x4 : Int) (hi5 : zI) (hr6 : zR) => RSc hr6 ∧ ((x4 ≠ 0 → ((0 ≤ v ∧ v < 6) ∧ (W1v mX0_take [.inr (some (24, v)), .inl gi] hi5 hr6 (fun (hi8 : zI) => W1v mX8_give [.inr (some (11, 0)), .inl gi, .inl v, .inl tk] hi8 hr6 (fun (hi9 : zI) => P 1 hi9 hr6))))) ∧ (x4 = 0 → (W1v mX1_noteHopeless [.inr (some (17, 0)), .inl v, .inl gi, .inl tk] hi5 hr6 (fun (hi12 : zI) => P 0 hi12 hr6)))))) :
    W2i mX1_givePlan [.inr (some (17, 0)), .inr (some (30, jm)), .inl v, .inr (some (11, 0)), .inl gi, .inl tk] c r P := by
  have S : (0 ≤ gi ∧ gi < 60) ∧ (W0i mX10_stationCell [.inr (some (30, jm)), .inl (c 12 0 gi)] c r (fun (x2 : Int) => (0 ≤ gi ∧ gi < 60) ∧ (W0i mX10_stationCell [.inr (some (30, jm)), .inl (c 13 0 gi)] c r (fun (x3 : Int) => W2i mX4_findTrip [.inr (some (19, 0)), .inr (some (30, jm)), .inr (some (18, 0)), .inl v, .inl x2, .inl x3, .inl tk] c r (fun (x4 : Int) (hi5 : zI) (hr6 : zR) => RSc hr6 ∧ ((x4 ≠ 0 → ((0 ≤ v ∧ v < 6) ∧ (W1v mX0_take [.inr (some (24, v)), .inl gi] hi5 hr6 (fun (hi8 : zI) => W1v mX8_give [.inr (some (11, 0)), .inl gi, .inl v, .inl tk] hi8 hr6 (fun (hi9 : zI) => P 1 hi9 hr6))))) ∧ (x4 = 0 → (W1v mX1_noteHopeless [.inr (some (17, 0)), .inl v, .inl gi, .inl tk] hi5 hr6 (fun (hi12 : zI) => P 0 hi12 hr6))))))))) :=
    ⟨by omega, stationCell_run R hj hs A (Or.inl ⟨hA.1, hA.2.1, hA.2.2⟩) _ ⟨by omega, stationCell_run R hj hs B (Or.inl ⟨hB.1, hB.2.1, hB.2.2⟩) _ K⟩⟩
  exact GX1_givePlan R jm v gi tk hj ⟨fun z => absurd z (by omega), fun _ => ⟨fun z => absurd z (by omega), fun _ => GX8_has gi ⟨fun z => absurd z (by omega), fun _ => ⟨fun z => absurd z (by omega), fun _ => ⟨fun z => absurd z (by omega), fun _ => ⟨fun _ => ⟨fun _ => S, fun z => ⟨fun _ => S, fun z2 => absurd ⟨z, z2⟩ nh⟩⟩, fun z => absurd z (by decide)⟩⟩⟩⟩⟩⟩
theorem Ref105 {m : zI} {hr : zR} (hM : RSm hr) {a1 v x : Int} {m' : zI} (hv : 0 ≤ v ∧ v < m 37 0 10 ∧ m 37 0 10 ≤ 6) (h74 : m 74 0 v = 1) (hg : 0 ≤ m 37 0 20 ∧ m 37 0 20 < 60) (hA : 0 ≤ m 46 0 (m 37 0 20) ∧ m 46 0 (m 37 0 20) < 256) (hB : 0 ≤ m 47 0 (m 37 0 20) ∧ m 47 0 (m 37 0 20) < 256) (P : Int → zI → Prop)
    (hf : R1i mX12_finds [.inr (some (37, 0)), .inl v, .inl (m 41 0 (m 46 0 (m 37 0 20))), .inl (m 41 0 (m 47 0 (m 37 0 20))), .inl (m 37 0 61)] m hr x m')
    (k0 : x = 0 → WP mX12_baseActs 88 [some (.inr (some (37, 0))), some (.inl a1), some (.inl 0), some (.inl v)] [] m' hr (zQ1i hr P))
    (k1 : x ≠ 0 → m' 37 = m 37 ∧ (0 ≤ m' 77 0 v ∧ m' 77 0 v ≤ 60) ∧ WP mX12_baseActs 88 [some (.inr (some (37, 0))), some (.inl a1), some (.inl 1), some (.inl v)] [] (gvM m' v) hr (zQ1i hr P)) :
    WP mX12_baseActs 105 [some (.inr (some (37, 0))), some (.inl a1), some (.inl 1), some (.inl v)] [] m hr (zQ1i hr P) := by
  have v6 : 0 ≤ v ∧ v < 6 := by omega
  refine GX12_baseActs_105 hM a1 1 v ⟨fun z => absurd z (by omega), fun _ => ⟨v6, fun _ => ⟨fun z => absurd z (by omega), fun _ => ⟨hg, hA, hg, hB, hf _ ⟨k0, fun z => ?_⟩⟩⟩, fun z => absurd z (by omega)⟩⟩
  obtain ⟨e, b, w⟩ := k1 z
  have e20 : m' 37 0 20 = m 37 0 20 := by rw [e]
  exact ⟨v6, v6, ⟨by omega, by omega⟩, v6, v6, v6, by omega, by omega, ⟨by omega, by omega⟩, w⟩
theorem hand_from {jm : Int} : ∀ (n : Nat) (c m0 : zI) (r : zR), c 11 0 6 + n = c 11 0 5 → r 1 0 6 = some (30, jm) → Rl 6 6 6 1 1 c r m0 → ∃ c' r', lowE c c' ∧ (c' 11 0 7 = c 11 0 7 ∧ c' 1 0 9 = c 1 0 9) ∧
    (∀ (P : zI → zR → Prop) u5, P c' r' → WP mX1_handOut 6 [some (.inr (some (17, 0))), some (.inr (some (30, jm))), some (.inr (some (11, 0))), some (.inl (c 1 0 9)), some (.inl (c 11 0 6)), u5] [] c r (zQ2v P)) ∧
    ∀ m, Rl 6 6 6 1 1 c r m → ∃ m', hiE m m' ∧ (∀ hr, RSm hr → ∀ (P : Int → zI → Prop) a1 u3, (∀ a2, WP mX12_baseActs 261 [some (.inr (some (37, 0))), some (.inl a1), some (.inl a2), some (.inl 0)] [] m' hr (zQ1i hr P)) → WP mX12_baseActs 88 [some (.inr (some (37, 0))), some (.inl a1), some (.inl 1), u3] [] m hr (zQ1i hr P)) ∧ Rl 6 6 6 1 1 c' r' m' := by
  intro n
  induction n with
  | zero =>
    intro c m0 r hn rj h0
    have hj := (h0.stn rj).1
    refine ⟨c, r, lowE.refl c, ⟨rfl, rfl⟩, fun P u5 hP => GX1_handOut_6 h0.1 jm _ _ u5 hj ⟨fun _ => hP, fun z => absurd z (by omega)⟩, fun m h => ⟨m, hiE.refl m, fun hr hM P a1 u3 K => ?_, h⟩⟩
    obtain ⟨-, -, -, -, n5, n6, -⟩ := h.num
    exact GX12_baseActs_88 a1 1 u3 ⟨fun z => absurd z (by decide), fun _ => ⟨fun _ => K 1, fun z => absurd z (by omega)⟩⟩
  | succ n ih =>
    intro c m0 r hn rj h0
    have R := h0.1
    obtain ⟨hj, s7, s10, s34, s12⟩ := h0.stn rj
    obtain ⟨n2, n10, n9, n61, n5, n6, n7, n20, n21⟩ := h0.num
    have hg0 : m0 37 0 20 < m0 37 0 19 := by omega
    -- the class's first idle vehicle
    obtain ⟨v, vs, vw⟩ := idle_from R n2 n10.2 (m0 37 0 10).toNat 0 (by omega) (by omega) (fun u' x y => by omega)
    have num : ∀ m, Rl 6 6 6 1 1 c r m → (m 37 0 10 = m0 37 0 10 ∧ m 37 0 61 = m0 37 0 61 ∧ m 37 0 20 = m0 37 0 20 ∧ m 37 0 19 = m0 37 0 19) := fun m h => by
      have := (h0.same h).1
      exact ⟨this.2.2.1, this.2.2.2.1, this.2.2.2.2.1, this.2.2.2.2.2.1⟩
    rcases vs with ⟨ev, hno⟩ | ⟨v0, v1, v2, hlt⟩
    · -- none
      refine ⟨c, r, lowE.refl c, ⟨rfl, rfl⟩, fun P u5 hP => GX1_handOut_6 R jm _ _ u5 hj ⟨fun z => absurd z (by omega), fun _ => GX1_leastIdle (vw _ ⟨fun _ => hP, fun z => absurd ev z⟩)⟩, fun m h => ⟨m, hiE.refl m, fun hr hM P a1 u3 K => ?_, h⟩⟩
      obtain ⟨e10, e61, e20, e19⟩ := num m h
      refine GX12_baseActs_88 a1 1 u3 ⟨fun z => absurd z (by decide), fun _ => ⟨fun z => absurd z (by omega), fun _ => ?_⟩⟩
      refine idle_105 hM (v := m 37 0 10) ⟨Int.le_refl _, by omega⟩ P ?_ (m 37 0 10).toNat 0 (by omega) (by omega) (fun u' x y => (h.idle (by omega)).2 (hno u' x (by omega)))
      exact GX12_baseActs_105 hM a1 1 _ ⟨fun _ => ⟨fun _ => GX12_baseActs_88 a1 0 _ ⟨fun _ => K 0, fun z => absurd rfl z⟩, fun z => absurd z (by omega)⟩, fun z => absurd z (by omega)⟩
    · have hv : 0 ≤ v ∧ v < m0 37 0 10 := ⟨v0, v1⟩
      have v6 : 0 ≤ v ∧ v < 6 := by omega
      have vne : v ≠ -1 := by omega
      -- the reference comes to the same vehicle
      have ref : ∀ m, Rl 6 6 6 1 1 c r m → ∀ hr, RSm hr → ∀ (P : Int → zI → Prop) a1 u3, WP mX12_baseActs 105 [some (.inr (some (37, 0))), some (.inl a1), some (.inl 1), some (.inl v)] [] m hr (zQ1i hr P) → WP mX12_baseActs 88 [some (.inr (some (37, 0))), some (.inl a1), some (.inl 1), u3] [] m hr (zQ1i hr P) := by
        intro m h hr hM P a1 u3 K
        obtain ⟨e10, e61, e20, e19⟩ := num m h
        refine GX12_baseActs_88 a1 1 u3 ⟨fun z => absurd z (by decide), fun _ => ⟨fun z => absurd z (by omega), fun _ => ?_⟩⟩
        exact idle_105 hM ⟨by omega, by omega⟩ P K v.toNat 0 (by omega) (by omega) (fun u' x y => (h.idle (by omega)).2 (hlt u' x y))
      by_cases nh : c 17 0 3 = c 11 0 6 ∧ c 17 0 4 = v
      · -- hopeless
        refine ⟨c, r, lowE.refl c, ⟨rfl, rfl⟩, fun P u5 hP => GX1_handOut_6 R jm _ _ u5 hj ⟨fun z => absurd z (by omega), fun _ => GX1_leastIdle (vw _ ⟨fun z => absurd z vne, fun _ => ?_⟩)⟩, fun m h => ?_⟩
        · exact GX1_givePlan R jm v _ _ hj ⟨fun z => absurd z (by omega), fun _ => ⟨fun z => absurd z (by omega), fun _ => GX8_has _ ⟨fun z => absurd z (by omega), fun _ => ⟨fun z => absurd z (by omega), fun _ => ⟨fun z => absurd z (by omega), fun _ => ⟨fun _ => ⟨fun z => absurd nh.1 z, fun _ => ⟨fun z => absurd nh.2 z, fun _ => ⟨R, fun z => absurd rfl z, fun _ => hP⟩⟩⟩, fun z => absurd z (by decide)⟩⟩⟩⟩⟩⟩
        · obtain ⟨e10, e61, e20, e19⟩ := num m h
          obtain ⟨M, gi60, hA, hB, sn⟩ := h.ask (v := v) (by omega) (by omega)
          have RH := h.2.2.2.2.2.2.2.2.2.2.2.2.2.1.2
          have nf := (RH (by have := h.num; omega)).2.2.2 (m 37 0 61) (Int.le_refl _)
          rw [nh.2] at nf
          obtain ⟨m', f1, f2⟩ := finds_run h.2.1 M
          rcases f2 with ⟨-, g2⟩ | ⟨N, N1, g, -⟩
          · refine ⟨m', fun q hq => f1 q (by omega) (by omega), fun hr hM P a1 u3 K => ref m h hr hM P a1 u3 ?_, h.onM2 f1⟩
            exact Ref105 hM ⟨v0, by omega, by omega⟩ ((h.idle v6).1 v2) gi60 (by omega) (by omega) P (g2 hr hM) (fun _ => GX12_baseActs_88 a1 0 _ ⟨fun _ => K 0, fun z => absurd rfl z⟩) (fun z => absurd rfl z)
          · exact absurd ⟨N, N1, g⟩ nf
      · -- a search
        obtain ⟨M0, gi60, hA0, hB0, sn⟩ := h0.ask hv hg0
        obtain ⟨x, c', r', x1, rq, cq, fr, x0, fm⟩ := find_run h0 rj hv M0.2.2.2.2.2.1
        have t12 := s12 (m0 37 0 20) gi60.1 hg0
        have kc : ∀ q, q ≠ 19 → q ≠ 20 → q ≠ 21 → q ≠ 22 → q ≠ 23 → q ≠ 25 → q ≠ 26 → q ≠ 27 → q ≠ 28 → c' q = c q := cq.1
        have k11 := kc 11 (by decide) (by decide) (by decide) (by decide) (by decide) (by decide) (by decide) (by decide) (by decide)
        have k24 := kc 24 (by decide) (by decide) (by decide) (by decide) (by decide) (by decide) (by decide) (by decide) (by decide)
        have k17 := kc 17 (by decide) (by decide) (by decide) (by decide) (by decide) (by decide) (by decide) (by decide) (by decide)
        have k1 := kc 1 (by decide) (by decide) (by decide) (by decide) (by decide) (by decide) (by decide) (by decide) (by decide)
        have GP := fun P K => GivePlan (c := c) R (jm := jm) (v := v) (gi := c 11 0 6) (tk := c 1 0 9) (A := m0 41 0 (m0 46 0 (m0 37 0 20))) (B := m0 41 0 (m0 47 0 (m0 37 0 20))) hj v6 (by omega) (by omega) (by rw [n6, t12.1]; exact ⟨hA0.1, by omega, (s34 _ hA0.1 hA0.2).symm⟩) (by rw [n6, t12.2]; exact ⟨hB0.1, by omega, (s34 _ hB0.1 hB0.2).symm⟩) nh P K
        -- what the reference's search asks
        have ask : ∀ m, Rl 6 6 6 1 1 c r m → ME m (m0 37 0 5) (m0 37 0 6) (m0 37 0 10) v (m0 41 0 (m0 46 0 (m0 37 0 20))) (m0 41 0 (m0 47 0 (m0 37 0 20))) (m0 37 0 61) (m 39 0) (m 42 0) (m 51 0) (m 52 0) (m 53 0) ∧ m 41 0 (m 46 0 (m 37 0 20)) = m0 41 0 (m0 46 0 (m0 37 0 20)) ∧ m 41 0 (m 47 0 (m 37 0 20)) = m0 41 0 (m0 47 0 (m0 37 0 20)) ∧ m 37 0 5 = m0 37 0 5 ∧ m 37 0 6 = m0 37 0 6 := by
          intro m h
          obtain ⟨⟨e5, e6, e10, e61, e20, e19, e9⟩, AGs, t46, t41⟩ := h0.same h
          obtain ⟨M, -⟩ := h.ask (v := v) (by omega) (by omega)
          have q46 := t46 (m0 37 0 20) gi60.1 hg0
          have eA : m 41 0 (m 46 0 (m 37 0 20)) = m0 41 0 (m0 46 0 (m0 37 0 20)) := by rw [e20, q46.1, t41 _ hA0.1 hA0.2]
          have eB : m 41 0 (m 47 0 (m 37 0 20)) = m0 41 0 (m0 47 0 (m0 37 0 20)) := by rw [e20, q46.2, t41 _ hB0.1 hB0.2]
          rw [e5, e6, e10, e61, eA, eB] at M
          exact ⟨M, eA, eB, e5, e6⟩
        rcases x1 with ex | ex
        · -- in vain
          subst ex
          have z0 := x0 rfl
          have ec : ∀ q, q ≠ 19 → q ≠ 20 → q ≠ 21 → q ≠ 22 → q ≠ 23 → c' q = c q := by
            intro q a1 a2 a3 a4 a5
            by_cases b1 : q = 25
            · rw [b1]; exact z0.1
            by_cases b2 : q = 26
            · rw [b2]; exact z0.2.1
            by_cases b3 : q = 27
            · rw [b3]; exact z0.2.2.1
            by_cases b4 : q = 28
            · rw [b4]; exact z0.2.2.2
            exact kc q a1 a2 a3 a4 a5 b1 b2 b3 b4
          have h1 := h0.cong ec rq (fdE.refl m0)
          obtain ⟨c2, hc2, hw2⟩ := hop_from (c := c') (r := r') (v := v) (i := c 11 0 6) (tk := c 1 0 9) (vn := m0 37 0 10) rq.1 (by rw [k17]; exact n2) n10.2 (fun u a0 a1 => h1.ends ⟨a0, a1⟩) (m0 37 0 10).toNat 0 (by omega) (by omega) (fun u' x y => by omega)
          have hc2' : c2 = c' ∨ (c2 = zup (zup c' 17 0 3 (c' 11 0 6)) 17 0 4 v ∧ ∀ u', 0 ≤ u' → u' < c' 17 0 2 → c' 25 u' 3 + c' 25 u' 4 ≤ c' 1 0 9) := by
            rw [k11, k17, k1, n2]
            exact hc2
          have low : lowE c c2 := by
            have l1 : lowE c c' := fun q hq => kc q (by omega) (by omega) (by omega) (by omega) (by omega) (by omega) (by omega) (by omega) (by omega)
            rcases hc2 with e | ⟨e, -⟩
            · rw [e]; exact l1
            · rw [e]; exact (l1.zup (by decide)).zup (by decide)
          have fin7 : c2 11 0 7 = c 11 0 7 := by
            rcases hc2 with e | ⟨e, -⟩
            · rw [e, k11]
            · rw [e, zup_kf _ _ _ _ (by decide), zup_kf _ _ _ _ (by decide), k11]
          have fin9 : c2 1 0 9 = c 1 0 9 := by
            rcases hc2 with e | ⟨e, -⟩
            · rw [e, k1]
            · rw [e, zup_kf _ _ _ _ (by decide), zup_kf _ _ _ _ (by decide), k1]
          refine ⟨c2, r', low, ⟨fin7, fin9⟩, fun P u5 hP => GX1_handOut_6 R jm _ _ u5 hj ⟨fun z => absurd z (by omega), fun _ => GX1_leastIdle (vw _ ⟨fun z => absurd z vne, fun _ => GP _ ?_⟩)⟩, fun m h => ?_⟩
          · rw [n9]
            refine fr _ ⟨rq.1, fun z => absurd rfl z, fun _ => GX1_noteHopeless _ _ _ ?_⟩
            rw [← n9]
            exact hw2 _ ⟨rq.1, fun z => absurd rfl z, fun _ => hP⟩
          · obtain ⟨M, eA, eB, e5, e6⟩ := ask m h
            obtain ⟨e10, e61, e20, e19⟩ := num m h
            obtain ⟨-, gi60', hA', hB', sn'⟩ := h.ask (v := v) (by omega) (by omega)
            obtain ⟨m', f1, f2, f3⟩ := fm m h M
            rcases f3 with ⟨-, f4, f5⟩ | ⟨z, -⟩
            · have h2 := h.cong ec rq f4
              have k37 := f4 37 (by decide) (by decide)
              have nf' : ¬ Fnd (m' 37 0 5) (m' 37 0 6) (m' 37 0 10) (m' 39 0) (m' 42 0) (m' 51 0) (m' 52 0) (m' 53 0) v (m' 41 0 (m' 46 0 (m' 37 0 20))) (m' 41 0 (m' 47 0 (m' 37 0 20))) (m' 37 0 61) := by
                rw [k37, f4 39 (by decide) (by decide), f4 42 (by decide) (by decide), f4 51 (by decide) (by decide), f4 52 (by decide) (by decide), f4 53 (by decide) (by decide), f4 41 (by decide) (by decide), f4 46 (by decide) (by decide), f4 47 (by decide) (by decide), eA, eB, e5, e6, e10, e61]
                exact f5
              refine ⟨m', f1, fun hr hM P a1 u3 K => ref m h hr hM P a1 u3 ?_, h2.vain (by rw [k37]; omega) (by rw [k37]; omega) nf' hc2'⟩
              refine Ref105 hM ⟨v0, by omega, by omega⟩ ((h.idle v6).1 v2) gi60' (by omega) (by omega) P ?_ (fun _ => GX12_baseActs_88 a1 0 _ ⟨fun _ => K 0, fun z => absurd rfl z⟩) (fun z => absurd rfl z)
              rw [eA, eB, e61]
              exact f2 hr hM
            · exact absurd z (by decide)
        · -- a plan
          subst ex
          have fit : ∀ m, Rl 6 6 6 1 1 c r m → ∃ m', hiE m m' ∧ (∀ hr, RSm hr → R1i mX12_finds [.inr (some (37, 0)), .inl v, .inl (m0 41 0 (m0 46 0 (m0 37 0 20))), .inl (m0 41 0 (m0 47 0 (m0 37 0 20))), .inl (m0 37 0 61)] m hr 1 m') ∧ mqE v m m' ∧ Rl 6 6 6 1 1 (gvC c' v (c 11 0 6) (c 1 0 9)) r' (gvM m' v) := by
            intro m h
            obtain ⟨M, eA, eB, e5, e6⟩ := ask m h
            obtain ⟨e10, e61, e20, e19⟩ := num m h
            obtain ⟨m', f1, f2, f3⟩ := fm m h M
            rcases f3 with ⟨z, -⟩ | ⟨-, N, N1, mq, g52, g53, pr, g51, g3⟩
            · exact absurd z (by decide)
            · refine ⟨m', f1, f2, mq, ?_⟩
              have e42 := ((h0.same h).2.1 v hv.1 hv.2).2.1
              have := h.give (v := v) (by omega) ((h.idle v6).1 v2) (by omega) rq cq mq N1 (by rw [e61]; exact g52) (by rw [e61]; exact g53) (p := 3 * m0 42 0 v + 2) (by omega) (by rw [← e42]; omega) (by rw [e61, e5, e6]; exact pr) (by rw [← e42]; exact g51) (by rw [← e42]; exact g3)
              rw [e20, e61, ← n6, ← n9] at this
              exact this
          obtain ⟨M1, -, -, -, hR1⟩ := fit m0 h0
          have q6 : gvC c' v (c 11 0 6) (c 1 0 9) 11 0 6 = c 11 0 6 + 1 := by rw [gvC_11, if_pos rfl, k11]
          have q5 : gvC c' v (c 11 0 6) (c 1 0 9) 11 0 5 = c 11 0 5 := by rw [gvC_11, if_neg (by decide), k11]
          have q7 : gvC c' v (c 11 0 6) (c 1 0 9) 11 0 7 = c 11 0 7 := by rw [gvC_11, if_neg (by decide), k11]
          have q9 : gvC c' v (c 11 0 6) (c 1 0 9) 1 0 9 = c 1 0 9 := by rw [gvC_k _ _ _ _ (by decide) (by decide) (by decide) (by decide), k1]
          obtain ⟨c2, r2, y1, y2, y3, y4⟩ := ih (gvC c' v (c 11 0 6) (c 1 0 9)) (gvM M1 v) r' (by rw [q6, q5]; omega) (by rw [rq.2.1 1 (by decide)]; exact rj) hR1
          have low : lowE c c2 := by
            intro q hq
            rw [y1 q hq, gvC_k _ _ _ _ (by omega) (by omega) (by omega) (by omega), kc q (by omega) (by omega) (by omega) (by omega) (by omega) (by omega) (by omega) (by omega) (by omega)]
          have pl := h0.plans hv
          refine ⟨c2, r2, low, ⟨y2.1.trans q7, y2.2.trans q9⟩, fun P u5 hP => GX1_handOut_6 R jm _ _ u5 hj ⟨fun z => absurd z (by omega), fun _ => GX1_leastIdle (vw _ ⟨fun z => absurd z vne, fun _ => GP _ ?_⟩)⟩, fun m h => ?_⟩
          · have y3' := y3 P (some (.inl v)) hP
            rw [q9, q6] at y3'
            rw [n9]
            refine fr _ ⟨rq.1, fun _ => ⟨v6, GX0_take v _ v6 ⟨?_, GX8_give rq.1 _ _ _ (GX8_has _ ⟨fun z => absurd z (by omega), fun _ => ⟨fun z => ?_, fun _ => ⟨fun z => absurd z (by omega), fun _ => ⟨fun z => absurd z (by decide), fun _ => ⟨by omega, by omega, ?_, rq.1, fun _ => ⟨⟨by omega, by omega⟩, ?_⟩, fun z => absurd z (by decide)⟩⟩⟩⟩⟩)⟩⟩, fun z => absurd z (by decide)⟩
            · rw [k24]; exact ⟨by omega, by omega⟩
            · exfalso
              have z' : c' 11 0 5 ≤ c 11 0 6 := z
              rw [k11] at z'
              omega
            · show zInR (c' 11 0 6 + 1)
              rw [k11]; exact ⟨by omega, by omega⟩
            · rw [← n9]
              exact y3'
          · obtain ⟨M, eA, eB, e5, e6⟩ := ask m h
            obtain ⟨e10, e61, e20, e19⟩ := num m h
            obtain ⟨-, gi60', hA', hB', sn'⟩ := h.ask (v := v) (by omega) (by omega)
            obtain ⟨m', f1, f2, mq, f3⟩ := fit m h
            obtain ⟨m2, w1, w2, w3⟩ := y4 (gvM m' v) f3
            have k77 := mq.1 77 (by decide) (by decide) (by decide) (by decide) (by decide) (by decide) (by decide) (by decide)
            have k37 := mq.1 37 (by decide) (by decide) (by decide) (by decide) (by decide) (by decide) (by decide) (by decide)
            have plm := h.plans (v := v) (by omega)
            have hg2 : hiE m (gvM m' v) := fun q hq => by rw [gvM_k _ _ (by omega) (by omega) (by omega) (by omega) (by omega) (by omega) (by omega)]; exact f1 q hq
            refine ⟨m2, hg2.trans w1, fun hr hM P a1 u3 K => ref m h hr hM P a1 u3 ?_, w3⟩
            refine Ref105 hM ⟨v0, by omega, by omega⟩ ((h.idle v6).1 v2) gi60' (by omega) (by omega) P (x := 1) ?_ (fun z => absurd z (by decide)) (fun _ => ⟨k37, by rw [k77]; exact plm.2, w2 hr hM P a1 _ K⟩)
            rw [eA, eB, e61]
            exact f2 hr hM
/-- tasks are handed out -/
theorem hand_all {c m0 : zI} {r : zR} (h0 : Rl 6 6 6 1 1 c r m0) : ∃ jm c' r', r 1 0 6 = some (30, jm) ∧ (0 ≤ jm ∧ jm < 2) ∧ lowE c c' ∧ (c' 11 0 7 = c 11 0 7 ∧ c' 1 0 9 = c 1 0 9) ∧ R2v mX1_handOut [.inr (some (17, 0)), .inr (some (30, jm)), .inr (some (11, 0)), .inl (c 1 0 9)] c r c' r' ∧
    ∀ m, Rl 6 6 6 1 1 c r m → ∃ m', hiE m m' ∧ (∀ hr, RSm hr → ∀ (P : Int → zI → Prop) a1 u3, (∀ a2, WP mX12_baseActs 261 [some (.inr (some (37, 0))), some (.inl a1), some (.inl a2), some (.inl 0)] [] m' hr (zQ1i hr P)) → WP mX12_baseActs 88 [some (.inr (some (37, 0))), some (.inl a1), some (.inl 1), u3] [] m hr (zQ1i hr P)) ∧ Rl 6 6 6 1 1 c' r' m' := by
  obtain ⟨jm, rj⟩ : ∃ jm, r 1 0 6 = some (30, jm) := by
    obtain ⟨jm, -, j2, -⟩ := h0.2.2.2.2.2.2.2.1
    exact ⟨jm, j2⟩
  have nn := h0.num
  obtain ⟨c', r', x1, x2, x3, x4⟩ := hand_from (jm := jm) (c 11 0 5 - c 11 0 6).toNat c m0 r (by omega) rj h0
  exact ⟨jm, c', r', rj, (h0.stn rj).1, x1, x2, fun P hP => GX1_handOut jm _ (h0.stn rj).1 (x3 P none hP), x4⟩
