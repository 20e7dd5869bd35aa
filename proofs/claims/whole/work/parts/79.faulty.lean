theorem nbr_cong {ln wd : Int} {k k' : Int → Int} (hw : 1 ≤ wd) (h : ∀ i, 0 ≤ i → i < ln * wd → k i = k' i) {i : Int} (d : Int) (hi : 0 ≤ i ∧ i < ln * wd) : nbr ln wd k i d = nbr ln wd k' i d := by
  obtain ⟨y, x, y0, y1, x0, x1, e⟩ := gc_of hw hi.1 hi.2
  rw [e, nbr_at _ x0 x1, nbr_at _ x0 x1]
  by_cases q : 0 ≤ y + dY d ∧ y + dY d < ln ∧ 0 ≤ x + dX d ∧ x + dX d < wd
  · have g := gc_in q.1 q.2.1 q.2.2.1 q.2.2.2
    rw [h _ g.1 g.2]
  · rw [if_pos (by omega), if_pos (by omega)]
/-- a text with a fault changes nothing -/
theorem Rl.faulty {c c' m' : zI} {r : zR} (h : RLb c r c) {jm p : Int} (r6 : r 1 0 6 = some (30, jm)) (sp : spE (1 - jm) c c') (em : ∀ k, 37 < k → k ≠ 39 → k ≠ 43 → k ≠ 44 → m' k = c k) (em37 : ∀ s, s ≠ 2 → s ≠ 3 → s ≠ 4 → s ≠ 13 → s ≠ 14 → m' 37 0 s = c 37 0 s) (em39 : ∀ i, i < 256 → m' 39 0 i = c 39 0 i) (m2 : m' 37 0 2 = 0) (m4 : m' 37 0 4 = p) : RLb (zup (zup c' 1 0 8 p) 2 0 1 0) r m' := by
  have ask := fun (v : Int) (hv : 0 ≤ v ∧ v < c 37 0 10) (hg : c 37 0 20 < c 37 0 19) => (h.ask hv hg).1
  obtain ⟨h1, h2, h3, h4, h5, h6, h7, h8, h9, h10, h11, h12, h13, h14⟩ := h
  obtain ⟨jm', j1, j2, j3, pp⟩ := h8
  have ej : jm' = jm := by
    rw [j2] at r6
    injection r6 with r6
    injection r6 with _ r6
  subst ej
  have nj : jm' ≠ 1 - jm' := by omega
  have mx := mul_bd (a := c 37 0 5) (b := c 37 0 6) (A := 16) (B := 16) (by have := pp.2.2.2.2.1; omega) pp.2.2.2.2.2.1 (by have := pp.2.2.2.2.2.2.1; omega) pp.2.2.2.2.2.2.2.1
  have ek : ∀ i, 0 ≤ i → i < c 37 0 5 * c 37 0 6 → c 39 0 i = m' 39 0 i := fun i _ b => (em39 i (by omega)).symm
  have sk : ∀ k, k ≠ 1 → k ≠ 2 → k ≠ 4 → k ≠ 5 → k ≠ 6 → k ≠ 30 → k ≠ 31 → k ≠ 32 → k ≠ 33 → k ≠ 34 → k ≠ 35 → zup (zup c' 1 0 8 p) 2 0 1 0 k = c k := fun k x1 x2 x3 x4 x5 x6 x7 x8 x9 x10 x11 => by rw [zup_kf _ _ _ _ x2, zup_kf _ _ _ _ x1, sp.1 k x3 x4 x5 x6 x7 x8 x9 x10 x11]
  have sj : ∀ k, (k = 30 ∨ k = 31 ∨ k = 32 ∨ k = 33 ∨ k = 34 ∨ k = 35) → zup (zup c' 1 0 8 p) 2 0 1 0 k jm' = c k jm' := fun k hk => by rw [zup_kf _ _ _ _ (by omega), zup_kf _ _ _ _ (by omega), sp.2 k jm' hk nj]
  have s1 : ∀ s, zup (zup c' 1 0 8 p) 2 0 1 0 1 0 s = if s = 8 then p else c 1 0 s := fun s => by rw [zup_kf _ _ _ _ (by decide), zup_at, sp.1 1 (by decide) (by decide) (by decide) (by decide) (by decide) (by decide) (by decide) (by decide) (by decide)]
  have s2 : zup (zup c' 1 0 8 p) 2 0 1 0 2 0 1 = 0 := zup_s _ _ _ _ _
  refine ⟨h1, h2, h3, ?_, ?_, ?_, ?_, ⟨jm', j1, j2, j3, ?_⟩, ?_, ?_, ?_, ?_, ?_, ?_, ?_⟩
  all_goals simp only [em37 5 (by decide) (by decide) (by decide) (by decide) (by decide), em37 6 (by decide) (by decide) (by decide) (by decide) (by decide), em37 9 (by decide) (by decide) (by decide) (by decide) (by decide), em37 10 (by decide) (by decide) (by decide) (by decide) (by decide), em37 17 (by decide) (by decide) (by decide) (by decide) (by decide), em37 19 (by decide) (by decide) (by decide) (by decide) (by decide), em37 20 (by decide) (by decide) (by decide) (by decide) (by decide), em37 21 (by decide) (by decide) (by decide) (by decide) (by decide), em37 35 (by decide) (by decide) (by decide) (by decide) (by decide), em37 36 (by decide) (by decide) (by decide) (by decide) (by decide), em37 37 (by decide) (by decide) (by decide) (by decide) (by decide), em37 53 (by decide) (by decide) (by decide) (by decide) (by decide), em37 61 (by decide) (by decide) (by decide) (by decide) (by decide), em 38 (by decide) (by decide) (by decide) (by decide), em 40 (by decide) (by decide) (by decide) (by decide), em 41 (by decide) (by decide) (by decide) (by decide), em 42 (by decide) (by decide) (by decide) (by decide), em 45 (by decide) (by decide) (by decide) (by decide), em 46 (by decide) (by decide) (by decide) (by decide), em 47 (by decide) (by decide) (by decide) (by decide), em 48 (by decide) (by decide) (by decide) (by decide), em 49 (by decide) (by decide) (by decide) (by decide), em 50 (by decide) (by decide) (by decide) (by decide), em 51 (by decide) (by decide) (by decide) (by decide), em 52 (by decide) (by decide) (by decide) (by decide), em 53 (by decide) (by decide) (by decide) (by decide), em 54 (by decide) (by decide) (by decide) (by decide), em 55 (by decide) (by decide) (by decide) (by decide), em 56 (by decide) (by decide) (by decide) (by decide), em 59 (by decide) (by decide) (by decide) (by decide), em 60 (by decide) (by decide) (by decide) (by decide), em 61 (by decide) (by decide) (by decide) (by decide), em 62 (by decide) (by decide) (by decide) (by decide), em 63 (by decide) (by decide) (by decide) (by decide), em 64 (by decide) (by decide) (by decide) (by decide), em 65 (by decide) (by decide) (by decide) (by decide), em 67 (by decide) (by decide) (by decide) (by decide), em 68 (by decide) (by decide) (by decide) (by decide), em 69 (by decide) (by decide) (by decide) (by decide), em 70 (by decide) (by decide) (by decide) (by decide), em 71 (by decide) (by decide) (by decide) (by decide), em 72 (by decide) (by decide) (by decide) (by decide), em 73 (by decide) (by decide) (by decide) (by decide), em 74 (by decide) (by decide) (by decide) (by decide), em 75 (by decide) (by decide) (by decide) (by decide), em 76 (by decide) (by decide) (by decide) (by decide), em 77 (by decide) (by decide) (by decide) (by decide), em 78 (by decide) (by decide) (by decide) (by decide), em 79 (by decide) (by decide) (by decide) (by decide), em 80 (by decide) (by decide) (by decide) (by decide), sk 3 (by decide) (by decide) (by decide) (by decide) (by decide) (by decide) (by decide) (by decide) (by decide) (by decide) (by decide), sk 7 (by decide) (by decide) (by decide) (by decide) (by decide) (by decide) (by decide) (by decide) (by decide) (by decide) (by decide), sk 8 (by decide) (by decide) (by decide) (by decide) (by decide) (by decide) (by decide) (by decide) (by decide) (by decide) (by decide), sk 10 (by decide) (by decide) (by decide) (by decide) (by decide) (by decide) (by decide) (by decide) (by decide) (by decide) (by decide), sk 11 (by decide) (by decide) (by decide) (by decide) (by decide) (by decide) (by decide) (by decide) (by decide) (by decide) (by decide), sk 12 (by decide) (by decide) (by decide) (by decide) (by decide) (by decide) (by decide) (by decide) (by decide) (by decide) (by decide), sk 13 (by decide) (by decide) (by decide) (by decide) (by decide) (by decide) (by decide) (by decide) (by decide) (by decide) (by decide), sk 14 (by decide) (by decide) (by decide) (by decide) (by decide) (by decide) (by decide) (by decide) (by decide) (by decide) (by decide), sk 15 (by decide) (by decide) (by decide) (by decide) (by decide) (by decide) (by decide) (by decide) (by decide) (by decide) (by decide), sk 16 (by decide) (by decide) (by decide) (by decide) (by decide) (by decide) (by decide) (by decide) (by decide) (by decide) (by decide), sk 17 (by decide) (by decide) (by decide) (by decide) (by decide) (by decide) (by decide) (by decide) (by decide) (by decide) (by decide), sk 24 (by decide) (by decide) (by decide) (by decide) (by decide) (by decide) (by decide) (by decide) (by decide) (by decide) (by decide), sk 25 (by decide) (by decide) (by decide) (by decide) (by decide) (by decide) (by decide) (by decide) (by decide) (by decide) (by decide), sk 26 (by decide) (by decide) (by decide) (by decide) (by decide) (by decide) (by decide) (by decide) (by decide) (by decide) (by decide), sk 27 (by decide) (by decide) (by decide) (by decide) (by decide) (by decide) (by decide) (by decide) (by decide) (by decide) (by decide), sk 28 (by decide) (by decide) (by decide) (by decide) (by decide) (by decide) (by decide) (by decide) (by decide) (by decide) (by decide), sk 36 (by decide) (by decide) (by decide) (by decide) (by decide) (by decide) (by decide) (by decide) (by decide) (by decide) (by decide), s1]
  · exact h4
  · refine ⟨?_, ?_, ?_, fun i a b => ?_, ?_⟩
    · rw [s2, m2]
    · rw [m2]; decide
    · rw [m2]; decide
    · rw [m2] at b; omega
    · rw [m4]; rfl
  · exact h6
  · exact h7
  · rw [sj 30 (by decide), sj 31 (by decide), sj 32 (by decide), sj 33 (by decide), sj 34 (by decide), sj 35 (by decide)]
    obtain ⟨p1, p2, p3, p4, p5, p6, p7, p8, p9, p10, p11, p12, p13, p14, p15, p16⟩ := pp
    refine ⟨p1, p2, p3, p4, p5, p6, p7, p8, p9, p10, p11, p12, fun i i0 i1 => ?_, fun i i0 i1 => ?_, fun i i0 i1 => ?_, p16⟩
    · obtain ⟨a1, a2, a3, a4, a5⟩ := p13 i i0 i1
      rw [← ek i i0 i1]
      exact ⟨a1, a2, a3, a4, fun d d0 d1 => (a5 d d0 d1).trans (nbr_cong p7 ek d ⟨i0, i1⟩)⟩
    · obtain ⟨a1, a2, a3, a4⟩ := p14 i i0 i1
      rw [← ek _ a2 a3]
      exact ⟨a1, a2, a3, a4⟩
    · obtain ⟨a1, a2, a3, a4⟩ := p15 i i0 i1
      rw [← ek _ a2 a3]
      exact ⟨a1, a2, a3, a4⟩
  · exact h9
  · exact h10
  · exact h11
  · exact h12
  · exact h13
  · refine ⟨h14.1.1, fun q => ?_⟩
    obtain ⟨z1, z2, z3, z4⟩ := h14.1.2 q
    refine ⟨z1, z2, z3, fun t ht hF => z4 t ht ?_⟩
    have Y := (ask _ ⟨z2, z3⟩ z1).2.2.2.2.2.1
    have A : AG (c 37 0 5) (c 37 0 6) (c 37 0 10) (c 17 0 4) (c 39 0) (c 42 0) (c 51 0) (c 52 0) (c 53 0) (m' 39 0) (c 42 0) (c 51 0) (c 52 0) (c 53 0) := ⟨ek, rfl, fun _ _ _ _ => rfl⟩
    exact A.symm.fnd (A.yd Y) hF
  · exact h14.2
