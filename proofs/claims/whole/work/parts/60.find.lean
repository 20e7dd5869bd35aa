theorem Rl.same {f a s l e : Int} {c m0 m : zI} {r : zR} (h : Rl f a s l e c r m0) (h' : Rl f a s l e c r m) : (m 37 0 5 = m0 37 0 5 ∧ m 37 0 6 = m0 37 0 6 ∧ m 37 0 10 = m0 37 0 10 ∧ m 37 0 61 = m0 37 0 61 ∧ m 37 0 20 = m0 37 0 20 ∧ m 37 0 19 = m0 37 0 19 ∧ m 37 0 9 = m0 37 0 9) ∧ (∀ v, 0 ≤ v → v < m0 37 0 10 → AG (m0 37 0 5) (m0 37 0 6) (m0 37 0 10) v (m0 39 0) (m0 42 0) (m0 51 0) (m0 52 0) (m0 53 0) (m 39 0) (m 42 0) (m 51 0) (m 52 0) (m 53 0)) ∧ (∀ i, 0 ≤ i → i < m0 37 0 19 → m 46 0 i = m0 46 0 i ∧ m 47 0 i = m0 47 0 i) ∧ (∀ i, 0 ≤ i → i < m0 37 0 9 → m 41 0 i = m0 41 0 i) := by
  obtain ⟨h1, h2, h3, h4, h5, h6, h7, h8, h9, h10, h11, h12, h13, h14⟩ := h
  obtain ⟨g1, g2, g3, g4, g5, g6, g7, g8, g9, g10, g11, g12, g13, g14⟩ := h'
  obtain ⟨jm, j1, j2, j3, p1, p2, p3, p4, p5, p6, p7, p8, p9, p10, p11, p12, p13, p14, p15, p16⟩ := h8
  obtain ⟨jm', j1', j2', j3', q1, q2, q3, q4, q5, q6, q7, q8, q9, q10, q11, q12, q13, q14, q15, q16⟩ := g8
  have ej : jm' = jm := by
    rw [j2] at j2'
    injection j2' with j2'
    injection j2' with _ j2'
    exact j2'.symm
  subst ej
  have e6 : m 37 0 6 = m0 37 0 6 := q2.symm.trans p2
  have e5 : m 37 0 5 = m0 37 0 5 := by
    have : m 37 0 5 * m0 37 0 6 = m0 37 0 5 * m0 37 0 6 := by rw [← p1, q1, e6]
    exact Int.eq_of_mul_eq_mul_right (by omega) this
  have e10 : m 37 0 10 = m0 37 0 10 := q4.symm.trans p4
  have e9 : m 37 0 9 = m0 37 0 9 := q3.symm.trans p3
  have e61 : m 37 0 61 = m0 37 0 61 := g4.1.symm.trans h4.1
  have e20 : m 37 0 20 = m0 37 0 20 := g7.2.1.symm.trans h7.2.1
  have e19 : m 37 0 19 = m0 37 0 19 := g7.1.symm.trans h7.1
  refine ⟨⟨e5, e6, e10, e61, e20, e19, e9⟩, fun v v0 v1 => ⟨fun i i0 i1 => ?_, ?_, fun u t u0 u1 => ?_⟩, fun i i0 i1 => ?_, fun i i0 i1 => ?_⟩
  · rw [← (p13 i i0 i1).1, (q13 i i0 (by rw [e5, e6]; exact i1)).1]
  · rw [← (p15 v v0 v1).1, (q15 v v0 (by rw [e10]; exact v1)).1]
  · have a1 := RlR.at h11 (t := t) u0 u1
    have a2 := RlR.at g11 (t := t) u0 (by rw [e10]; exact u1)
    rcases a1 with ⟨x1, x2⟩ | ⟨x1, x2⟩
    · rcases a2 with ⟨y1, y2⟩ | ⟨y1, y2⟩
      · rw [x1, y1]
      · exact absurd x2 y2
    · rcases a2 with ⟨y1, y2⟩ | ⟨y1, y2⟩
      · exact absurd y2 x2
      · rw [x1, y1]
  · have x := h7.2.2.2.2.2.2.2.2 i i0 i1
    have y := g7.2.2.2.2.2.2.2.2 i i0 (by rw [e19]; exact i1)
    exact ⟨y.1.symm.trans x.1, y.2.1.symm.trans x.2.1⟩
  · rw [← (p14 i i0 i1).1, (q14 i i0 (by rw [e9]; exact i1)).1]
/-- what the next task asks, and the yard it is asked of -/
theorem Rl.ask {f a s l e : Int} {c m : zI} {r : zR} (h : Rl f a s l e c r m) {v : Int} (hv : 0 ≤ v ∧ v < m 37 0 10) (hg : m 37 0 20 < m 37 0 19) :
    ME m (m 37 0 5) (m 37 0 6) (m 37 0 10) v (m 41 0 (m 46 0 (m 37 0 20))) (m 41 0 (m 47 0 (m 37 0 20))) (m 37 0 61) (m 39 0) (m 42 0) (m 51 0) (m 52 0) (m 53 0) ∧ ((0 ≤ m 37 0 20 ∧ m 37 0 20 < 60) ∧ (0 ≤ m 46 0 (m 37 0 20) ∧ m 46 0 (m 37 0 20) < m 37 0 9) ∧ (0 ≤ m 47 0 (m 37 0 20) ∧ m 47 0 (m 37 0 20) < m 37 0 9) ∧ m 37 0 9 ≤ 10) := by
  obtain ⟨h1, h2, h3, h4, h5, h6, h7, h8, h9, h10, h11, h12, h13, h14⟩ := h
  obtain ⟨jm, j1, j2, j3, p1, p2, p3, p4, p5, p6, p7, p8, p9, p10, p11, p12, p13, p14, p15, p16⟩ := h8
  obtain ⟨k1, k2, k3, k4, k5, k6, k7, k8, k9⟩ := h7
  obtain ⟨x1, x2, x3, x4, x5, x6, x7, x8, x9, x10⟩ := k9 (m 37 0 20) k6 hg
  have a1 := p14 _ x6 x7
  have b1 := p14 _ x8 x9
  have c1 := p15 v hv.1 hv.2
  refine ⟨⟨⟨rfl, rfl, rfl⟩, ⟨rfl, rfl, rfl, rfl, rfl⟩, ⟨p11, p12⟩, hv, ⟨h4.2.1, h4.2.2.1⟩, ⟨⟨p5, p6⟩, ⟨p7, p8⟩, fun i i0 i1 => ⟨(p13 i i0 i1).2.1, (p13 i i0 i1).2.2.1⟩, ⟨a1.2.1, a1.2.2.1, by rw [a1.2.2.2]; decide⟩, ⟨b1.2.1, b1.2.2.1, by rw [b1.2.2.2]; decide⟩, ⟨c1.2.1, c1.2.2.1, by rw [c1.2.2.2]; decide⟩⟩, fun u u0 u1 => (RlR.end h11 h4.2.2.1 u0 u1).1⟩, ⟨k6, by omega⟩, ⟨x6, x7⟩, ⟨x8, x9⟩, p10⟩
/-- the planner, once it is told what it is about -/
def cFt (c : zI) (wd ln v t0 a b pa : Int) : zI := zup (zup (zup (zup (zup (zup (zup c 19 0 7 wd) 19 0 8 ln) 19 0 9 v) 19 0 10 t0) 19 0 11 a) 19 0 12 b) 19 0 13 pa
theorem cFt_k (c : zI) (wd ln v t0 a b pa : Int) {q : Nat} (h : q ≠ 19) : cFt c wd ln v t0 a b pa q = c q := by
  unfold cFt
  rw [zup_kf _ _ _ _ h, zup_kf _ _ _ _ h, zup_kf _ _ _ _ h, zup_kf _ _ _ _ h, zup_kf _ _ _ _ h, zup_kf _ _ _ _ h, zup_kf _ _ _ _ h]
theorem Rl.pe {f a s l e : Int} {c m : zI} {r : zR} (h : Rl f a s l e c r m) {v jm A B : Int} (rj : r 1 0 6 = some (30, jm)) (hv : 0 ≤ v ∧ v < m 37 0 10) (hA : Yd (m 37 0 5) (m 37 0 6) (m 39 0) A B (m 42 0 v)) :
    PE (cFt c (m 37 0 6) (m 37 0 5) v (m 37 0 61) A B (m 42 0 v)) (zupR (zupR r 19 0 5 (some (30, jm))) 19 0 6 (some (18, 0))) jm (m 37 0 5) (m 37 0 6) (m 37 0 10) v A B (m 37 0 61) (m 39 0) (m 42 0) (m 51 0) (m 52 0) (m 53 0) := by
  obtain ⟨h1, h2, h3, h4, h5, h6, h7, h8, h9, h10, h11, h12, h13, h14⟩ := h
  obtain ⟨jm', j1, j2, j3, p1, p2, p3, p4, p5, p6, p7, p8, p9, p10, p11, p12, p13, p14, p15, p16⟩ := h8
  have ej : jm' = jm := by
    rw [j2] at rj
    injection rj with rj
    injection rj with _ rj
  subst ej
  refine ⟨h1, by omega, rfl, rfl, ⟨rfl, rfl, rfl, rfl, rfl, rfl, rfl⟩, p1, p4, ⟨p11, p12⟩, hv, ⟨h4.2.1, h4.2.2.1⟩, hA, fun i i0 i1 => ⟨(p13 i i0 i1).1, (p13 i i0 i1).2.2.2.2⟩, fun u u0 u1 => ?_⟩
  obtain ⟨e1, e2, e3, e4, e5⟩ := RlR.end h11 h4.2.2.1 u0 u1
  refine ⟨e2, e4, fun t => ?_⟩
  have at1 := RlR.at h11 (t := t) u0 u1
  refine ⟨?_, at1⟩
  have pu := p15 u u0 u1
  obtain ⟨r1, r2, r3, r4, r5, r6, r7, r8, r9⟩ := h11 u u0 u1
  rcases at1 with ⟨x1, x2, x3⟩ | ⟨x1, x2⟩
  · rw [x1]
    rcases r9 with r9 | r9
    · omega
    · exact (r9.2.2.2.2.2.2.2.2.2.2.2 (t - c 25 u 3) (by omega) (by omega)).2
  · rw [x1, r1]
    exact ⟨pu.2.1, pu.2.2.1⟩
section ZP
variable {ln wd vn v a b t0 : Int} {k pk tr tb te : Int → Int}
theorem ldn_start {N : Nat} (hg : rch ln wd vn k pk tr tb te v a b t0 N (3 * pk v + 2)) : ldn ln wd vn k pk tr tb te v a b t0 N N (3 * pk v) := by
  have : ∀ j : Nat, j ≤ N → ∃ p, rch ln wd vn k pk tr tb te v a b t0 (N - j) p ∧ ldn ln wd vn k pk tr tb te v a b t0 N j p := by
    intro j
    induction j with
    | zero => exact fun _ => ⟨_, hg, rfl⟩
    | succ j ih =>
      intro hj
      obtain ⟨p, p1, p2⟩ := ih (by omega)
      rw [show N - j = (N - (j + 1)) + 1 by omega] at p1
      obtain ⟨p', x1, x2⟩ := p1
      exact ⟨p', x1, x1, p, x2, p2⟩
  obtain ⟨p, p1, p2⟩ := this N (Nat.le_refl N)
  rw [Nat.sub_self] at p1
  have : p = 3 * pk v := p1
  rw [this] at p2
  exact p2
/-- a trip begun -/
def cBg (c : zI) (v pa t0 : Int) : zI := zup (zup (zup (zup (zup (zup (zup c 25 v 2 pa) 25 v 3 t0) 25 v 4 0) 25 v 5 0) 25 v 6 0) 25 v 7 0) 26 v 0 pa
theorem cBg_k (c : zI) (v pa t0 : Int) {q : Nat} (h : q ≠ 25) (h' : q ≠ 26) : cBg c v pa t0 q = c q := by
  unfold cBg
  rw [zup_kf _ _ _ _ h', zup_kf _ _ _ _ h, zup_kf _ _ _ _ h, zup_kf _ _ _ _ h, zup_kf _ _ _ _ h, zup_kf _ _ _ _ h, zup_kf _ _ _ _ h]
theorem cBg_j (c : zI) (v pa t0 : Int) {q : Nat} {j : Int} (h : j ≠ v) : cBg c v pa t0 q j = c q j := by
  unfold cBg
  funext s
  rw [zup_j _ _ _ _ _ _ h, zup_j _ _ _ _ _ _ h, zup_j _ _ _ _ _ _ h, zup_j _ _ _ _ _ _ h, zup_j _ _ _ _ _ _ h, zup_j _ _ _ _ _ _ h, zup_j _ _ _ _ _ _ h]
theorem cBg_25 (c : zI) (v pa t0 : Int) : cBg c v pa t0 25 v 2 = pa ∧ cBg c v pa t0 25 v 3 = t0 ∧ cBg c v pa t0 25 v 4 = 0 ∧ cBg c v pa t0 25 v 5 = 0 ∧ cBg c v pa t0 25 v 6 = 0 ∧ cBg c v pa t0 25 v 7 = 0 ∧ cBg c v pa t0 26 v 0 = pa := by
  unfold cBg
  refine ⟨?_, ?_, ?_, ?_, ?_, ?_, ?_⟩
  · rw [zup_kf _ _ _ _ (by decide), zup_at, if_neg (by decide), zup_at, if_neg (by decide), zup_at, if_neg (by decide), zup_at, if_neg (by decide), zup_at, if_neg (by decide), zup_at, if_pos rfl]
  · rw [zup_kf _ _ _ _ (by decide), zup_at, if_neg (by decide), zup_at, if_neg (by decide), zup_at, if_neg (by decide), zup_at, if_neg (by decide), zup_at, if_pos rfl]
  · rw [zup_kf _ _ _ _ (by decide), zup_at, if_neg (by decide), zup_at, if_neg (by decide), zup_at, if_neg (by decide), zup_at, if_pos rfl]
  · rw [zup_kf _ _ _ _ (by decide), zup_at, if_neg (by decide), zup_at, if_neg (by decide), zup_at, if_pos rfl]
  · rw [zup_kf _ _ _ _ (by decide), zup_at, if_neg (by decide), zup_at, if_pos rfl]
  · rw [zup_kf _ _ _ _ (by decide), zup_at, if_pos rfl]
  · rw [zup_at, if_pos rfl]
end ZP
