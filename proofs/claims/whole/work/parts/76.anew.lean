/-- the class, begun anew -/
def CNew (c : zI) (j pc : Int) : Prop := (c 1 0 9 = 0 ∧ c 1 0 10 = 0) ∧ (c 7 0 2 = 1 ∧ c 7 0 3 = 0 ∧ c 7 0 4 = 0 ∧ c 7 0 5 = 0) ∧ c 8 0 0 = 0 ∧ (c 11 0 5 = 0 ∧ c 11 0 6 = 0 ∧ c 11 0 7 = 0) ∧ (c 17 0 2 = pc ∧ c 17 0 3 = -1 ∧ c 17 0 4 = -1) ∧
  ∀ v, 0 ≤ v → v < 6 → (c 24 v 1 = 0 ∧ c 24 v 2 = -1 ∧ c 24 v 3 = 0 ∧ c 24 v 4 = 0 ∧ c 24 v 5 = 0 ∧ c 24 v 6 = 0) ∧ (c 25 v 2 = (if v < pc then c 35 j v else -1) ∧ c 25 v 3 = 0 ∧ c 25 v 4 = 0 ∧ c 25 v 5 = 0) ∧ (c 36 v 0 = (if v < pc then c 35 j v else -1) ∧ c 36 v 1 = 0 ∧ c 36 v 2 = 0 ∧ c 36 v 3 = 0 ∧ c 36 v 5 = 0)
/-- the reference, begun anew -/
def MNew (m : zI) : Prop := (m 37 0 19 = 0 ∧ m 37 0 20 = 0 ∧ m 37 0 21 = 0 ∧ m 37 0 61 = 0 ∧ m 37 0 35 = 0 ∧ m 37 0 36 = 0 ∧ m 37 0 37 = 0 ∧ m 37 0 53 = 0 ∧ m 37 0 17 = 1 ∧ m 45 0 0 = 0) ∧
  ∀ v, 0 ≤ v → v < 6 → m 67 0 v = (if v < m 37 0 10 then m 42 0 v else -1) ∧ m 68 0 v = 0 ∧ m 69 0 v = 0 ∧ m 70 0 v = 0 ∧ m 71 0 v = 0 ∧ m 73 0 v = 0 ∧ m 74 0 v = 1 ∧ m 75 0 v = 0 ∧ m 76 0 v = 0 ∧ m 77 0 v = 0 ∧ m 78 0 v = -1 ∧ m 54 0 v = 0 ∧ m 79 0 v = 0 ∧ m 80 0 v = 0 ∧ m 52 0 v = 0 ∧ m 53 0 v = -1
theorem RLb_new {c m : zI} {r : zR} {j ln wd : Int} (hR : RSc r) (hM : RSm r) (hh : ∃ jh : Int, (jh = 0 ∨ jh = 1) ∧ r 19 0 3 = some (23, jh) ∧ r 19 0 4 = some (23, 1 - jh)) (hj : j = 0 ∨ j = 1) (r6 : r 1 0 6 = some (30, j)) (r7 : r 1 0 7 = some (30, 1 - j))
    (h9 : ∃ pi : Int → Int, (∀ i, 0 ≤ i → i < 64 → r 9 0 i = some (10, pi i) ∧ 0 ≤ pi i ∧ pi i < 64) ∧ (∀ i i', 0 ≤ i → i < i' → i' < 64 → pi i ≠ pi i'))
    (hl : 1 ≤ ln ∧ ln ≤ 16) (hw : 1 ≤ wd ∧ wd ≤ 16) (e5 : m 37 0 5 = ln) (e6 : m 37 0 6 = wd) (f5 : c 30 j 5 = ln * wd) (f6 : c 30 j 6 = wd) (kk : ∀ i, 0 ≤ i → i < ln * wd → c 31 j i = m 39 0 i) (nn : ∀ i d, 0 ≤ i → i < ln * wd → 0 ≤ d → d < 4 → c 33 j (i * 4 + d) = nbr ln wd (c 31 j) i d)
    (A : MpI (c 31 j) (ln * wd) (c 30 j 7) (c 30 j 8) (c 32 j) (c 34 j) (c 35 j) 10 6) (B : MpI (m 39 0) (ln * wd) (m 37 0 9) (m 37 0 10) (m 40 0) (m 41 0) (m 42 0) 256 256) (hp : 1 ≤ c 30 j 8 ∧ c 30 j 8 ≤ 6) (hs : c 30 j 7 ≤ 10)
    (T : RlT (c 2 0) (c 3 0) (c 1 0 8) (m 37 0 2) (m 37 0 4) (m 38 0)) (C : CNew c j (c 30 j 8)) (M : MNew m) : RLb c r m := by
  have ck : ∀ q i, i ≤ ln * wd → cnK q (c 31 j) i = cnK q (m 39 0) i := fun q i hi => cnK_cong q (fun i' a b => kk i' a (by omega))
  obtain ⟨a1, a2, a3, a4, a5⟩ := A
  obtain ⟨b1, b2, b3, b4, b5⟩ := B
  have e9 : c 30 j 7 = m 37 0 9 := by rw [a1, b1, ck 2 _ (Int.le_refl _)]
  have e10 : c 30 j 8 = m 37 0 10 := by rw [a2, b2, ck 3 _ (Int.le_refl _)]
  have s0 := (cnK_le 2 (m 39 0) (show (0 : Int) ≤ 0 by omega) (show (0 : Int) ≤ ln * wd from Int.mul_nonneg (by omega) (by omega))).1
  rw [cnK_0, ← b1] at s0
  have ep : ∀ v, 0 ≤ v → v < m 37 0 10 → c 35 j v = m 42 0 v ∧ 0 ≤ m 42 0 v ∧ m 42 0 v < ln * wd ∧ m 39 0 (m 42 0 v) = 3 := by
    intro v v0 v1
    obtain ⟨x1, x2, x3⟩ := a5 v v0 (by omega) (by omega)
    obtain ⟨y1, y2, y3⟩ := b5 v v0 v1 (by omega)
    refine ⟨?_, y1.1, y1.2, y2⟩
    rw [ck 3 _ (by omega)] at x3
    exact cnK_inj (q := 3) (K := m 39 0) x1.1 y1.1 (by rw [← kk _ x1.1 x1.2]; exact x2) y2 (by omega)
  have es : ∀ v, 0 ≤ v → v < m 37 0 9 → c 34 j v = m 41 0 v ∧ 0 ≤ m 41 0 v ∧ m 41 0 v < ln * wd ∧ m 39 0 (m 41 0 v) = 2 := by
    intro v v0 v1
    obtain ⟨x1, x2, x3⟩ := a4 v v0 (by omega) (by omega)
    obtain ⟨y1, y2, y3⟩ := b4 v v0 v1 (by omega)
    refine ⟨?_, y1.1, y1.2, y2⟩
    rw [ck 2 _ (by omega)] at x3
    exact cnK_inj (q := 2) (K := m 39 0) x1.1 y1.1 (by rw [← kk _ x1.1 x1.2]; exact x2) y2 (by omega)
  have nbk : ∀ i d, 0 ≤ i → i < ln * wd → 0 ≤ d → d < 4 → nbr ln wd (c 31 j) i d = nbr ln wd (m 39 0) i d := by
    intro i d i0 i1 d0 d1
    obtain ⟨y, x, y0, y1, x0, x1, e⟩ := gc_of hw.1 i0 i1
    rw [e, nbr_at _ x0 x1, nbr_at _ x0 x1]
    by_cases q : 0 ≤ y + dY d ∧ y + dY d < ln ∧ 0 ≤ x + dX d ∧ x + dX d < wd
    · have g := gc_in q.1 q.2.1 q.2.2.1 q.2.2.2
      rw [kk _ g.1 g.2]
    · rw [if_pos (by omega), if_pos (by omega)]
  obtain ⟨⟨c1, c2⟩, ⟨c3, c4, c5, c6⟩, c7, ⟨c8, c9, c10⟩, ⟨c11, c12, c13⟩, cv⟩ := C
  obtain ⟨⟨m1, m2, m3, m4, m5, m6, m7, m8, m9, m10⟩, mv⟩ := M
  have pk : ∀ v, 0 ≤ v → v < 6 → (if v < c 30 j 8 then c 35 j v else -1) = (if v < m 37 0 10 then m 42 0 v else -1) := by
    intro v v0 v1
    rw [e10]
    by_cases q : v < m 37 0 10
    · rw [if_pos q, if_pos q, (ep v v0 q).1]
    · rw [if_neg q, if_neg q]
  refine ⟨hR, hM, hh, ⟨by omega, by omega, by omega, by omega, by omega, by omega, by omega, by omega, by omega, by omega, by omega, by omega, by omega⟩, T, ⟨by omega, by omega, by omega, fun i i0 i1 => ?_⟩, ⟨by omega, by omega, by omega, by omega, by omega, by omega, by omega, by omega, fun i i0 i1 => absurd i1 (by omega)⟩, ⟨j, hj, r6, r7, ?_⟩, fun v v0 v1 => ?_, fun v v0 v1 => ?_, fun v v0 v1 => ?_, fun v v0 v1 => ?_, ?_, ⟨by omega, fun z => absurd z (by omega)⟩, fun v v0 v1 => ?_⟩
  · have e : i = 0 := by omega
    rw [e, c7, m10]
    exact ⟨rfl, by decide, by decide⟩
  · rw [e5, e6]
    refine ⟨f5, f6, e9, e10, hl.1, hl.2, hw.1, hw.2, s0, by omega, by omega, by omega, fun i i0 i1 => ?_, fun i i0 i1 => es i i0 i1, fun i i0 i1 => ep i i0 i1, fun i i' i0 i1 i2 => ?_⟩
    · obtain ⟨x1, x2, x3, x4⟩ := a3 i i0 i1
      obtain ⟨y1, y2, y3, y4⟩ := b3 i i0 i1
      have ki := kk i i0 i1
      refine ⟨ki, y1.1, y1.2, ?_, fun d d0 d1 => (nn i d i0 i1 d0 d1).trans (nbk i d i0 i1 d0 d1)⟩
      by_cases q2 : m 39 0 i = 2
      · rw [x2 (by omega), y2 q2, ck 2 i (by omega)]
      · by_cases q3 : m 39 0 i = 3
        · rw [x3 (by omega), y3 q3, ck 3 i (by omega)]
        · rw [x4 (by omega) (by omega), y4 q2 q3]
    · obtain ⟨x1, x2, x3⟩ := b5 i i0 (by omega) (by omega)
      obtain ⟨y1, y2, y3⟩ := b5 i' (by omega) i2 (by omega)
      by_cases q : m 42 0 i < m 42 0 i'
      · exact q
      · have := (cnK_le 3 (m 39 0) y1.1 (show m 42 0 i' ≤ m 42 0 i by omega)).1
        omega
  · obtain ⟨x1, x2, x3⟩ := cv v v0 v1
    obtain ⟨y1, y2, y3, y4, y5, y6, y7, y8, y9, y10, y11, y12, y13, y14, y15, y16⟩ := mv v v0 v1
    exact ⟨by rw [x3.1, y1]; exact pk v v0 v1, by omega, by omega, by omega, Or.inl y5, fun z => absurd z (by omega), by omega, by omega, fun _ => by omega⟩
  · obtain ⟨x1, x2, x3⟩ := cv v v0 v1
    obtain ⟨y1, y2, y3, y4, y5, y6, y7, y8, y9, y10, y11, y12, y13, y14, y15, y16⟩ := mv v v0 v1
    exact ⟨by omega, by omega, by omega, by omega, by omega, by omega, by omega, by omega, Or.inl ⟨y7, y11⟩, fun _ => y7⟩
  · obtain ⟨x1, x2, x3⟩ := cv v v0 (by omega)
    obtain ⟨y1, y2, y3, y4, y5, y6, y7, y8, y9, y10, y11, y12, y13, y14, y15, y16⟩ := mv v v0 (by omega)
    refine ⟨?_, by omega, by omega, by omega, by omega, by omega, fun i i0 i1 => absurd i1 (by omega), fun i i' i0 i1 i2 => absurd i2 (by omega), Or.inl ⟨y10, y16, x2.2.1, x2.2.2.1, y12⟩⟩
    rw [x2.1, e10, if_pos v1, (ep v v0 v1).1]
  · obtain ⟨y1, y2, y3, y4, y5, y6, y7, y8, y9, y10, y11, y12, y13, y14, y15, y16⟩ := mv v v0 (by omega)
    refine ⟨Or.inl (by omega), by omega, by omega, by omega, fun _ => ⟨by omega, fun z => absurd z (by omega), ?_⟩, fun z => absurd (y3.trans y10.symm) z, by omega, by omega, Or.inr ⟨by omega, by omega⟩, by omega, by omega⟩
    rw [if_pos (Or.inl (by omega)), y2]
  · obtain ⟨pi, p1, p2⟩ := h9
    rw [c4, m7]
    exact ⟨pi, fun _ => 0, p1, p2, Int.le_refl _, by decide, fun i i' a b d => absurd d (by omega), fun i a b => absurd b (by omega), rfl, Int.le_refl _, by decide, fun q a b => absurd b (by omega), fun i x a b => absurd b (by omega), fun q q' a b d => absurd d (by omega)⟩
  · obtain ⟨y1, y2, y3, y4, y5, y6, y7, y8, y9, y10, y11, y12, y13, y14, y15, y16⟩ := mv v v0 (by omega)
    exact ⟨by omega, fun _ => ⟨by omega, by omega⟩⟩
