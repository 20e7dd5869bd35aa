theorem Rl.cong {f a s l e : Int} {c m c' m' : zI} {r r' : zR} (h : Rl f a s l e c r m) (ec : ∀ q, q ≠ 19 → q ≠ 20 → q ≠ 21 → q ≠ 22 → q ≠ 23 → c' q = c q) (rq : rqE r r') (em : fdE m m') : Rl f a s l e c' r' m' := by
  obtain ⟨h1, h2, h3, h4, h5, h6, h7, h8, h9, h10, h11, h12, h13, h14⟩ := h
  unfold Rl
  simp only [ec 1 (by decide) (by decide) (by decide) (by decide) (by decide), ec 2 (by decide) (by decide) (by decide) (by decide) (by decide), ec 3 (by decide) (by decide) (by decide) (by decide) (by decide), ec 7 (by decide) (by decide) (by decide) (by decide) (by decide), ec 8 (by decide) (by decide) (by decide) (by decide) (by decide), ec 10 (by decide) (by decide) (by decide) (by decide) (by decide), ec 11 (by decide) (by decide) (by decide) (by decide) (by decide), ec 12 (by decide) (by decide) (by decide) (by decide) (by decide), ec 13 (by decide) (by decide) (by decide) (by decide) (by decide), ec 14 (by decide) (by decide) (by decide) (by decide) (by decide), ec 15 (by decide) (by decide) (by decide) (by decide) (by decide), ec 16 (by decide) (by decide) (by decide) (by decide) (by decide), ec 17 (by decide) (by decide) (by decide) (by decide) (by decide), ec 24 (by decide) (by decide) (by decide) (by decide) (by decide), ec 25 (by decide) (by decide) (by decide) (by decide) (by decide), ec 26 (by decide) (by decide) (by decide) (by decide) (by decide), ec 27 (by decide) (by decide) (by decide) (by decide) (by decide), ec 28 (by decide) (by decide) (by decide) (by decide) (by decide), ec 30 (by decide) (by decide) (by decide) (by decide) (by decide), ec 31 (by decide) (by decide) (by decide) (by decide) (by decide), ec 32 (by decide) (by decide) (by decide) (by decide) (by decide), ec 33 (by decide) (by decide) (by decide) (by decide) (by decide), ec 34 (by decide) (by decide) (by decide) (by decide) (by decide), ec 35 (by decide) (by decide) (by decide) (by decide) (by decide), ec 36 (by decide) (by decide) (by decide) (by decide) (by decide), em 37 (by decide) (by decide), em 38 (by decide) (by decide), em 39 (by decide) (by decide), em 40 (by decide) (by decide), em 41 (by decide) (by decide), em 42 (by decide) (by decide), em 45 (by decide) (by decide), em 46 (by decide) (by decide), em 47 (by decide) (by decide), em 48 (by decide) (by decide), em 49 (by decide) (by decide), em 50 (by decide) (by decide), em 51 (by decide) (by decide), em 52 (by decide) (by decide), em 53 (by decide) (by decide), em 54 (by decide) (by decide), em 55 (by decide) (by decide), em 56 (by decide) (by decide), em 59 (by decide) (by decide), em 60 (by decide) (by decide), em 61 (by decide) (by decide), em 62 (by decide) (by decide), em 63 (by decide) (by decide), em 64 (by decide) (by decide), em 65 (by decide) (by decide), em 67 (by decide) (by decide), em 68 (by decide) (by decide), em 69 (by decide) (by decide), em 70 (by decide) (by decide), em 71 (by decide) (by decide), em 72 (by decide) (by decide), em 73 (by decide) (by decide), em 74 (by decide) (by decide), em 75 (by decide) (by decide), em 76 (by decide) (by decide), em 77 (by decide) (by decide), em 78 (by decide) (by decide), em 79 (by decide) (by decide), em 80 (by decide) (by decide), rq.2.1 1 (by decide), rq.2.1 9 (by decide)]
  refine ⟨rq.1, ?_, rq.2.2, h4, h5, h6, h7, h8, h9, h10, h11, h12, h13, h14⟩
  unfold RSm at h2 ⊢
  simp only [rq.2.1 37 (by decide)]
  exact h2
theorem rqE.refl {f a s l e : Int} {c m : zI} {r : zR} (h : Rl f a s l e c r m) : rqE r r := ⟨h.1, fun _ _ => rfl, h.2.2.1⟩
theorem Rl.onM2 {f a s l e : Int} {c m m' : zI} {r : zR} (h : Rl f a s l e c r m) (em : fdE m m') : Rl f a s l e c r m' := h.cong (fun _ _ _ _ _ _ => rfl) (rqE.refl h) em
/-- once all trips are over, what was not found is not found later -/
theorem fnd_later {ln wd vn v a b t0 t : Int} {k pk tr tb te : Int → Int} (hp : ∀ u t, 0 ≤ u → u < vn → t0 ≤ t → tAt pk tr tb te u t = pk u) (ht : t0 ≤ t) (h : Fnd ln wd vn k pk tr tb te v a b t) : Fnd ln wd vn k pk tr tb te v a b t0 := by
  obtain ⟨n, n1, n2⟩ := h
  refine ⟨n, n1, ?_⟩
  have key : ∀ (n : Nat) (p : Int), rch ln wd vn k pk tr tb te v a b t n p → rch ln wd vn k pk tr tb te v a b t0 n p := by
    intro n
    induction n with
    | zero => exact fun p h => h
    | succ n ih =>
      rintro q ⟨p, w1, s, s0, s1, s2, s3, s4⟩
      refine ⟨p, ih p w1, s, s0, s1, s2, s3, fun u u0 u1 hne => ?_⟩
      have := s4 u u0 u1 hne
      rw [hp u (t + n) u0 u1 (by omega), hp u (t + n + 1) u0 u1 (by omega)] at this
      rw [hp u (t0 + n) u0 u1 (by omega), hp u (t0 + n + 1) u0 u1 (by omega)]
      exact this
  exact key n _ n2
theorem hop_from {c : zI} {r : zR} (R : RSc r) {v i tk vn : Int} (e2 : c 17 0 2 = vn) (hvn : vn ≤ 6) (hb : ∀ u, 0 ≤ u → u < vn → (0 ≤ c 25 u 3 ∧ c 25 u 3 ≤ 600) ∧ (0 ≤ c 25 u 4 ∧ c 25 u 4 ≤ 300)) : ∀ (n : Nat) (u : Int), u + n = vn → 0 ≤ u → (∀ u', 0 ≤ u' → u' < u → c 25 u' 3 + c 25 u' 4 ≤ tk) →
    ∃ c', (c' = c ∨ (c' = zup (zup c 17 0 3 i) 17 0 4 v ∧ ∀ u', 0 ≤ u' → u' < vn → c 25 u' 3 + c 25 u' 4 ≤ tk)) ∧ ∀ P : zI → Prop, P c' → WP mX1_noteHopeless 3 [some (.inr (some (17, 0))), some (.inl v), some (.inl i), some (.inl tk), some (.inl u)] [] c r (zQ1v r P) := by
  intro n
  induction n with
  | zero =>
    intro u hn h0 h
    have e : u = vn := by omega
    subst e
    exact ⟨_, Or.inr ⟨rfl, h⟩, fun P hP => GX1_noteHopeless_3 R v i tk u ⟨fun _ => hP, fun q => absurd q (by omega)⟩⟩
  | succ n ih =>
    intro u hn h0 h
    have b := hb u h0 (by omega)
    have lm := lastMoment_run (hi := c) (hr := r) (j := u) (by omega) b.1 b.2
    by_cases q : c 25 u 3 + c 25 u 4 ≤ tk
    · obtain ⟨c', x1, x2⟩ := ih (u + 1) (by omega) (by omega) (fun u' a0 a1 => by
        by_cases z : u' = u
        · rw [z]; exact q
        · exact h u' a0 (by omega))
      exact ⟨c', x1, fun P hP => GX1_noteHopeless_3 R v i tk u ⟨fun z => absurd z (by omega), fun _ => ⟨by omega, lm _ ⟨fun _ => ⟨⟨by omega, by omega⟩, x2 P hP⟩, fun z => absurd z (by omega)⟩⟩⟩⟩
    · exact ⟨c, Or.inl rfl, fun P hP => GX1_noteHopeless_3 R v i tk u ⟨fun z => absurd z (by omega), fun _ => ⟨by omega, lm _ ⟨fun z => absurd z q, fun _ => hP⟩⟩⟩⟩
/-- a search in vain, and its note -/
theorem Rl.vain {f a s l e v : Int} {c m c' : zI} {r : zR} (h : Rl f a s l e c r m) (hv : 0 ≤ v ∧ v < m 37 0 10) (hg : m 37 0 20 < m 37 0 19) (nf : ¬ Fnd (m 37 0 5) (m 37 0 6) (m 37 0 10) (m 39 0) (m 42 0) (m 51 0) (m 52 0) (m 53 0) v (m 41 0 (m 46 0 (m 37 0 20))) (m 41 0 (m 47 0 (m 37 0 20))) (m 37 0 61))
    (hc : c' = c ∨ (c' = zup (zup c 17 0 3 (c 11 0 6)) 17 0 4 v ∧ ∀ u', 0 ≤ u' → u' < c 17 0 2 → c 25 u' 3 + c 25 u' 4 ≤ c 1 0 9)) : Rl f a s l e c' r m := by
  rcases hc with rfl | ⟨rfl, hall⟩
  · exact h
  · obtain ⟨h1, h2, h3, h4, h5, h6, h7, h8, h9, h10, h11, h12, h13, h14⟩ := h
    refine ⟨h1, h2, h3, h4, h5, h6, h7, h8, h9, h10, h11, h12, h13, ⟨?_, fun _ => ⟨hg, hv.1, hv.2, fun t ht z => nf (fnd_later (fun u t' u0 u1 ht' => ?_) ht z)⟩⟩, h14.2⟩
    · show c 11 0 6 ≤ m 37 0 20
      have := h7.2.1
      omega
    · have hal := hall u u0 (by have := h4.2.2.2.2.2.2.2.2.2.2.2.2; omega)
      have etk := h4.1
      have tk0 := h4.2.1
      obtain ⟨r1, r2, r3, r4, r5, r6, r7, r8, r9⟩ := h11 u u0 u1
      unfold tAt
      rcases r9 with r9 | r9
      · rw [if_pos (Or.inl r9.2.1)]
      · rw [if_pos (Or.inr (Or.inr (by omega)))]
theorem idle_from {c : zI} {r : zR} (R : RSc r) {vn : Int} (e2 : c 17 0 2 = vn) (hvn : vn ≤ 6) : ∀ (n : Nat) (u : Int), u + n = vn → 0 ≤ u → (∀ u', 0 ≤ u' → u' < u → c 24 u' 2 ≠ -1) →
    ∃ v, ((v = -1 ∧ ∀ u', 0 ≤ u' → u' < vn → c 24 u' 2 ≠ -1) ∨ (0 ≤ v ∧ v < vn ∧ c 24 v 2 = -1 ∧ ∀ u', 0 ≤ u' → u' < v → c 24 u' 2 ≠ -1)) ∧ ∀ P : Int → Prop, P v → WP mX1_leastIdle 2 [some (.inr (some (17, 0))), some (.inl u)] [] c r (zQ0i c r P) := by
  intro n
  induction n with
  | zero =>
    intro u hn h0 h
    have e : u = vn := by omega
    subst e
    exact ⟨-1, Or.inl ⟨rfl, h⟩, fun P hP => GX1_leastIdle_2 R u ⟨fun _ => hP, fun q => absurd q (by omega)⟩⟩
  | succ n ih =>
    intro u hn h0 h
    have u6 : 0 ≤ u ∧ u < 6 := by omega
    by_cases q : c 24 u 2 = -1
    · exact ⟨u, Or.inr ⟨h0, by omega, q, h⟩, fun P hP => GX1_leastIdle_2 R u ⟨fun z => absurd z (by omega), fun _ => ⟨u6, isIdle_run u6 1 (Or.inl ⟨rfl, q⟩) _ ⟨fun z => absurd z (by decide), fun _ => hP⟩⟩⟩⟩
    · obtain ⟨v, x1, x2⟩ := ih (u + 1) (by omega) (by omega) (fun u' a0 a1 => by
        by_cases z : u' = u
        · rw [z]; exact q
        · exact h u' a0 (by omega))
      exact ⟨v, x1, fun P hP => GX1_leastIdle_2 R u ⟨fun z => absurd z (by omega), fun _ => ⟨u6, isIdle_run u6 0 (Or.inr ⟨rfl, q⟩) _ ⟨fun _ => ⟨⟨by omega, by omega⟩, x2 P hP⟩, fun z => absurd rfl z⟩⟩⟩⟩
/-- the reference looks for the first idle vehicle -/
theorem idle_105 {m : zI} {r : zR} (hM : RSm r) {v a1 a2 : Int} (hv : v ≤ m 37 0 10 ∧ m 37 0 10 ≤ 6) (P : Int → zI → Prop) (K : WP mX12_baseActs 105 [some (.inr (some (37, 0))), some (.inl a1), some (.inl a2), some (.inl v)] [] m r (zQ1i r P)) : ∀ (n : Nat) (u : Int), u + n = v → 0 ≤ u → (∀ u', u ≤ u' → u' < v → m 74 0 u' = 0) → WP mX12_baseActs 105 [some (.inr (some (37, 0))), some (.inl a1), some (.inl a2), some (.inl u)] [] m r (zQ1i r P) := by
  intro n
  induction n with
  | zero =>
    intro u hn h0 h
    have e : u = v := by omega
    rw [e]
    exact K
  | succ n ih =>
    intro u hn h0 h
    exact GX12_baseActs_105 hM a1 a2 u ⟨fun z => absurd z (by omega), fun _ => ⟨by omega, fun z => absurd (h u (by omega) (by omega)) z, fun _ => ⟨⟨by omega, by omega⟩, ih (u + 1) (by omega) (by omega) (fun u' x y => h u' (by omega) y)⟩⟩⟩
theorem Rl.idle {f a s l e : Int} {c m : zI} {r : zR} (h : Rl f a s l e c r m) {u : Int} (hu : 0 ≤ u ∧ u < 6) : (c 24 u 2 = -1 → m 74 0 u = 1) ∧ (c 24 u 2 ≠ -1 → m 74 0 u = 0) := by
  obtain ⟨h1, h2, h3, h4, h5, h6, h7, h8, h9, h10, h11, h12, h13, h14⟩ := h
  have := h10 u hu.1 hu.2
  have e := this.2.1
  have d := this.2.2.2.2.2.2.2.2.1
  omega
theorem Rl.num {f a s l e : Int} {c m : zI} {r : zR} (h : Rl f a s l e c r m) : c 17 0 2 = m 37 0 10 ∧ (1 ≤ m 37 0 10 ∧ m 37 0 10 ≤ 6) ∧ c 1 0 9 = m 37 0 61 ∧ (0 ≤ m 37 0 61 ∧ m 37 0 61 ≤ 600) ∧ c 11 0 5 = m 37 0 19 ∧ c 11 0 6 = m 37 0 20 ∧ c 11 0 7 = m 37 0 21 ∧ (0 ≤ m 37 0 20 ∧ m 37 0 20 ≤ m 37 0 19 ∧ m 37 0 19 ≤ 60) ∧ (0 ≤ m 37 0 21 ∧ m 37 0 21 ≤ 6 * m 37 0 61 + f) := by
  obtain ⟨h1, h2, h3, h4, h5, h6, h7, h8, h9, h10, h11, h12, h13, h14⟩ := h
  obtain ⟨s1, s2, s3, s4, s5, s6, s7, s8, s9, s10, s11, s12, s13⟩ := h4
  obtain ⟨jm, -, -, -, p⟩ := h8
  obtain ⟨k1, k2, k3, k4, k5, k6, k7, k8, k9⟩ := h7
  exact ⟨s13, ⟨p.2.2.2.2.2.2.2.2.2.2.1, p.2.2.2.2.2.2.2.2.2.2.2.1⟩, s1, ⟨s2, s3⟩, k1, k2, k3, ⟨k6, k7, k8⟩, k4, k5⟩
theorem Rl.plans {f a s l e : Int} {c m : zI} {r : zR} (h : Rl f a s l e c r m) {v : Int} (hv : 0 ≤ v ∧ v < m 37 0 10) : c 24 v 1 = m 77 0 v ∧ 0 ≤ m 77 0 v ∧ m 77 0 v ≤ 60 := by
  have n := h.num
  obtain ⟨h1, h2, h3, h4, h5, h6, h7, h8, h9, h10, h11, h12, h13, h14⟩ := h
  obtain ⟨r1, r2, r3, r4, r5, r6, -⟩ := h11 v hv.1 hv.2
  exact ⟨(h10 v hv.1 (by omega)).1, r5, r6⟩
theorem Rl.stn {f a s l e : Int} {c m : zI} {r : zR} (h : Rl f a s l e c r m) {jm : Int} (rj : r 1 0 6 = some (30, jm)) : (0 ≤ jm ∧ jm < 2) ∧ c 30 jm 7 = m 37 0 9 ∧ m 37 0 9 ≤ 10 ∧ (∀ i, 0 ≤ i → i < m 37 0 9 → c 34 jm i = m 41 0 i) ∧ (∀ i, 0 ≤ i → i < m 37 0 19 → c 12 0 i = m 46 0 i ∧ c 13 0 i = m 47 0 i) := by
  obtain ⟨h1, h2, h3, h4, h5, h6, h7, h8, h9, h10, h11, h12, h13, h14⟩ := h
  obtain ⟨jm', j1, j2, j3, p1, p2, p3, p4, p5, p6, p7, p8, p9, p10, p11, p12, p13, p14, p15, p16⟩ := h8
  have ej : jm' = jm := by
    rw [j2] at rj
    injection rj with rj
    injection rj with _ rj
  subst ej
  exact ⟨by omega, p3, p10, fun i a b => (p14 i a b).1, fun i a b => ⟨(h7.2.2.2.2.2.2.2.2 i a b).1, (h7.2.2.2.2.2.2.2.2 i a b).2.1⟩⟩
theorem Rl.ends {f a s l e : Int} {c m : zI} {r : zR} (h : Rl f a s l e c r m) {u : Int} (hu : 0 ≤ u ∧ u < m 37 0 10) : (0 ≤ c 25 u 3 ∧ c 25 u 3 ≤ 600) ∧ (0 ≤ c 25 u 4 ∧ c 25 u 4 ≤ 300) := by
  obtain ⟨h1, h2, h3, h4, h5, h6, h7, h8, h9, h10, h11, h12, h13, h14⟩ := h
  have := RlR.end h11 h4.2.2.1 hu.1 hu.2
  exact ⟨this.2.1, this.2.2.1, this.2.2.2.1⟩
