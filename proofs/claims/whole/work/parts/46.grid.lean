/-- cells lie in lines -/
theorem gc_div {wd x : Int} (y : Int) (h0 : 0 ≤ x) (h1 : x < wd) : (y * wd + x) / wd = y ∧ (y * wd + x) % wd = x := by
  have e : y * wd + x = x + y * wd := Int.add_comm _ _
  rw [e]
  refine ⟨?_, ?_⟩
  · rw [Int.add_mul_ediv_right _ _ (by omega), Int.ediv_eq_zero_of_lt h0 h1, Int.zero_add]
  · rw [Int.add_mul_emod_self_right, Int.emod_eq_of_lt h0 h1]
theorem gc_in {ln wd y x : Int} (h0 : 0 ≤ y) (h1 : y < ln) (h2 : 0 ≤ x) (h3 : x < wd) : 0 ≤ y * wd + x ∧ y * wd + x < ln * wd := by
  have a := Int.mul_nonneg h0 (show 0 ≤ wd by omega)
  have b : (y + 1) * wd ≤ ln * wd := Int.mul_le_mul_of_nonneg_right (by omega) (by omega)
  rw [Int.add_mul, Int.one_mul] at b
  omega
theorem gc_of {ln wd c : Int} (hw : 1 ≤ wd) (h0 : 0 ≤ c) (h1 : c < ln * wd) : ∃ y x, 0 ≤ y ∧ y < ln ∧ 0 ≤ x ∧ x < wd ∧ c = y * wd + x := by
  refine ⟨c / wd, c % wd, Int.ediv_nonneg h0 (by omega), Int.ediv_lt_of_lt_mul (by omega) h1, Int.emod_nonneg _ (by omega), Int.emod_lt_of_pos _ (by omega), ?_⟩
  rw [Int.mul_comm]
  exact (Int.mul_ediv_add_emod c wd).symm
theorem gc_inj {wd y x y' x' : Int} (h0 : 0 ≤ x) (h1 : x < wd) (h2 : 0 ≤ x') (h3 : x' < wd) (e : y * wd + x = y' * wd + x') : y = y' ∧ x = x' := by
  have a := gc_div y h0 h1
  have b := gc_div y' h2 h3
  rw [e] at a
  exact ⟨a.1.symm.trans b.1, a.2.symm.trans b.2⟩
def opn (k : Int → Int) (a b pa c : Int) : Prop := k c = 1 ∨ c = a ∨ c = b ∨ c = pa
def trn (a b st c : Int) : Prop := (st = 0 ∧ c = a) ∨ (st = 1 ∧ c = b)
def hld (vn : Int) (pk tr tb te : Int → Int) (v t c : Int) : Prop := ∃ u, 0 ≤ u ∧ u < vn ∧ u ≠ v ∧ tAt pk tr tb te u t = c
/-- a yard, two stations and a parking place -/
def Yd (ln wd : Int) (k : Int → Int) (a b pa : Int) : Prop := (1 ≤ ln ∧ ln ≤ 16) ∧ (1 ≤ wd ∧ wd ≤ 16) ∧ (∀ c, 0 ≤ c → c < ln * wd → 0 ≤ k c ∧ k c ≤ 3) ∧ (0 ≤ a ∧ a < ln * wd ∧ k a ≠ 0) ∧ (0 ≤ b ∧ b < ln * wd ∧ k b ≠ 0) ∧ (0 ≤ pa ∧ pa < ln * wd ∧ k pa ≠ 0)
def dY (d : Int) : Int := if d = 0 then -1 else if d = 2 then 1 else 0
def dX (d : Int) : Int := if d = 1 then 1 else if d = 3 then -1 else 0
theorem nbr_at {ln wd y x : Int} (k : Int → Int) (h2 : 0 ≤ x) (h3 : x < wd) (d : Int) : nbr ln wd k (y * wd + x) d = if y + dY d < 0 ∨ ln ≤ y + dY d ∨ x + dX d < 0 ∨ wd ≤ x + dX d ∨ k ((y + dY d) * wd + (x + dX d)) = 0 then -1 else (y + dY d) * wd + (x + dX d) := by
  have e := gc_div y h2 h3
  unfold nbr
  rw [e.1, e.2]
  rfl
theorem ldTo_stay {ln wd : Int} {k : Int → Int} {a b pa c st : Int} (hc : 0 ≤ c) (hs : 0 ≤ st ∧ st < 3) : (trn a b st c ∧ ldTo ln wd k a b pa (3 * c + st) 0 = 3 * c + st + 1) ∨ (¬ trn a b st c ∧ ldTo ln wd k a b pa (3 * c + st) 0 = 3 * c + st) := by
  have e1 : (3 * c + st) / 3 = c := by omega
  have e2 : (3 * c + st) % 3 = st := by omega
  unfold ldTo trn
  rw [e1, e2]
  simp only [if_true]
  rw [if_neg (show ¬ c = -1 by omega), if_neg (fun q => absurd rfl q.1)]
  by_cases q1 : st = 0 ∧ c = a
  · rw [if_pos ⟨trivial, q1⟩]
    exact Or.inl ⟨Or.inl q1, by omega⟩
  · rw [if_neg (fun q => q1 q.2)]
    by_cases q2 : st = 1 ∧ c = b
    · rw [if_pos ⟨trivial, q2⟩]
      exact Or.inl ⟨Or.inr q2, by omega⟩
    · rw [if_neg (fun q => q2 q.2)]
      exact Or.inr ⟨fun z => z.elim q1 q2, rfl⟩
theorem ldTo_go {ln wd : Int} {k : Int → Int} {a b pa y x st d : Int} (Y : Yd ln wd k a b pa) (hy : 0 ≤ y ∧ y < ln) (hx : 0 ≤ x ∧ x < wd) (hs : 0 ≤ st ∧ st < 3) (hd : 0 ≤ d ∧ d < 4) :
    ((0 ≤ y + dY d ∧ y + dY d < ln ∧ 0 ≤ x + dX d ∧ x + dX d < wd ∧ opn k a b pa ((y + dY d) * wd + (x + dX d))) ∧ ldTo ln wd k a b pa (3 * (y * wd + x) + st) (d + 1) = 3 * ((y + dY d) * wd + (x + dX d)) + st) ∨
    (¬ (0 ≤ y + dY d ∧ y + dY d < ln ∧ 0 ≤ x + dX d ∧ x + dX d < wd ∧ opn k a b pa ((y + dY d) * wd + (x + dX d))) ∧ ldTo ln wd k a b pa (3 * (y * wd + x) + st) (d + 1) = -1) := by
  obtain ⟨hl, hw, hk, ha, hb, hp⟩ := Y
  have g := gc_in hy.1 hy.2 hx.1 hx.2
  have e1 : (3 * (y * wd + x) + st) / 3 = y * wd + x := by omega
  have e2 : (3 * (y * wd + x) + st) % 3 = st := by omega
  have e3 : d + 1 - 1 = d := by omega
  unfold ldTo
  dsimp only
  rw [e1, e2, e3, if_neg (show ¬ d + 1 = 0 by omega), nbr_at k hx.1 hx.2]
  generalize y + dY d = Y'
  generalize x + dX d = X'
  by_cases q : Y' < 0 ∨ ln ≤ Y' ∨ X' < 0 ∨ wd ≤ X' ∨ k (Y' * wd + X') = 0
  · rw [if_pos q, if_pos rfl]
    refine Or.inr ⟨fun z => ?_, rfl⟩
    obtain ⟨z1, z2, z3, z4, z5⟩ := z
    have : k (Y' * wd + X') = 0 := by omega
    rcases z5 with z | z | z | z
    · omega
    · rw [z] at this; exact ha.2.2 this
    · rw [z] at this; exact hb.2.2 this
    · rw [z] at this; exact hp.2.2 this
  · have q0 : 0 ≤ Y' ∧ Y' < ln ∧ 0 ≤ X' ∧ X' < wd ∧ k (Y' * wd + X') ≠ 0 := by omega
    obtain ⟨q1, q2, q3, q4, q5⟩ := q0
    have g' := gc_in q1 q2 q3 q4
    have kk := hk _ g'.1 g'.2
    rw [if_neg q, if_neg (show ¬ Y' * wd + X' = -1 by omega)]
    by_cases z : d + 1 ≠ 0 ∧ 2 ≤ k (Y' * wd + X') ∧ Y' * wd + X' ≠ a ∧ Y' * wd + X' ≠ b ∧ Y' * wd + X' ≠ pa
    · rw [if_pos z]
      refine Or.inr ⟨fun w => ?_, rfl⟩
      rcases w.2.2.2.2 with u | u | u | u
      · omega
      · exact z.2.2.1 u
      · exact z.2.2.2.1 u
      · exact z.2.2.2.2 u
    · rw [if_neg z, if_neg (by omega), if_neg (by omega)]
      refine Or.inl ⟨⟨q1, q2, q3, q4, ?_⟩, rfl⟩
      unfold opn
      omega
theorem clr_iff {vn : Int} {pk tr tb te : Int → Int} {v t here there : Int} : clr vn pk tr tb te v t here there ↔ ¬ hld vn pk tr tb te v t there ∧ ¬ hld vn pk tr tb te v (t + 1) there ∧ ¬ hld vn pk tr tb te v (t + 1) here := by
  unfold clr hld
  constructor
  · intro h
    exact ⟨fun ⟨u, a, b, c, d⟩ => (h u a b c).1 d, fun ⟨u, a, b, c, d⟩ => (h u a b c).2.1 d, fun ⟨u, a, b, c, d⟩ => (h u a b c).2.2 d⟩
  · intro h u a b c
    exact ⟨fun d => h.1 ⟨u, a, b, c, d⟩, fun d => h.2.1 ⟨u, a, b, c, d⟩, fun d => h.2.2 ⟨u, a, b, c, d⟩⟩
/-- the ways there are -/
theorem way_iff {ln wd : Int} {k : Int → Int} {a b pa y x st q : Int} (Y : Yd ln wd k a b pa) (hy : 0 ≤ y ∧ y < ln) (hx : 0 ≤ x ∧ x < wd) (hs : 0 ≤ st ∧ st < 3) :
    (∃ s, 0 ≤ s ∧ s < 5 ∧ ldTo ln wd k a b pa (3 * (y * wd + x) + st) s = q ∧ q ≠ -1) ↔
    (trn a b st (y * wd + x) ∧ q = 3 * (y * wd + x) + st + 1) ∨ (¬ trn a b st (y * wd + x) ∧ q = 3 * (y * wd + x) + st) ∨
    ∃ d, 0 ≤ d ∧ d < 4 ∧ 0 ≤ y + dY d ∧ y + dY d < ln ∧ 0 ≤ x + dX d ∧ x + dX d < wd ∧ opn k a b pa ((y + dY d) * wd + (x + dX d)) ∧ q = 3 * ((y + dY d) * wd + (x + dX d)) + st := by
  have g := gc_in hy.1 hy.2 hx.1 hx.2
  constructor
  · rintro ⟨s, s0, s1, s2, s3⟩
    by_cases z : s = 0
    · subst z
      rcases ldTo_stay (ln := ln) (wd := wd) (k := k) (a := a) (b := b) (pa := pa) g.1 hs with w | w
      · exact Or.inl ⟨w.1, s2.symm.trans w.2⟩
      · exact Or.inr (Or.inl ⟨w.1, s2.symm.trans w.2⟩)
    · have e : s = (s - 1) + 1 := by omega
      rw [e] at s2
      rcases ldTo_go (d := s - 1) Y hy hx hs (by omega) with w | w
      · exact Or.inr (Or.inr ⟨s - 1, by omega, by omega, w.1.1, w.1.2.1, w.1.2.2.1, w.1.2.2.2.1, w.1.2.2.2.2, s2.symm.trans w.2⟩)
      · exact absurd (s2.symm.trans w.2) s3
  · rintro (⟨h1, h2⟩ | ⟨h1, h2⟩ | ⟨d, d0, d1, d2, d3, d4, d5, d6, d7⟩)
    · refine ⟨0, by omega, by omega, ?_, by omega⟩
      rcases ldTo_stay (ln := ln) (wd := wd) (k := k) (a := a) (b := b) (pa := pa) g.1 hs with w | w
      · exact w.2.trans h2.symm
      · exact absurd h1 w.1
    · refine ⟨0, by omega, by omega, ?_, by omega⟩
      rcases ldTo_stay (ln := ln) (wd := wd) (k := k) (a := a) (b := b) (pa := pa) g.1 hs with w | w
      · exact absurd w.1 h1
      · exact w.2.trans h2.symm
    · have g' := gc_in d2 d3 d4 d5
      refine ⟨d + 1, by omega, by omega, ?_, by omega⟩
      rcases ldTo_go (d := d) Y hy hx hs ⟨d0, d1⟩ with w | w
      · exact w.2.trans d7.symm
      · exact absurd ⟨d2, d3, d4, d5, d6⟩ w.1
section ZM
variable {ln wd vn : Int} {k pk tr tb te : Int → Int} {v a b t0 : Int}
theorem stp_iff {t p q : Int} : stp ln wd vn k pk tr tb te v a b t p q ↔ (∃ s, 0 ≤ s ∧ s < 5 ∧ ldTo ln wd k a b (pk v) p s = q ∧ q ≠ -1) ∧ clr vn pk tr tb te v t (p / 3) (q / 3) :=
  ⟨fun ⟨s, a, b, c, d, e⟩ => ⟨⟨s, a, b, c, d⟩, e⟩, fun ⟨⟨s, a, b, c, d⟩, e⟩ => ⟨s, a, b, c, d, e⟩⟩
theorem rch_in (Y : Yd ln wd k a b (pk v)) : ∀ (n : Nat) (p : Int), rch ln wd vn k pk tr tb te v a b t0 n p → ∃ y x st, (0 ≤ y ∧ y < ln) ∧ (0 ≤ x ∧ x < wd) ∧ (0 ≤ st ∧ st < 3) ∧ p = 3 * (y * wd + x) + st ∧ opn k a b (pk v) (y * wd + x) := by
  intro n
  induction n with
  | zero =>
    intro p h
    have hp : p = 3 * pk v := h
    obtain ⟨hl, hw, hk, ha, hb, hpa⟩ := Y
    obtain ⟨y, x, y0, y1, x0, x1, e⟩ := gc_of hw.1 hpa.1 hpa.2.1
    exact ⟨y, x, 0, ⟨y0, y1⟩, ⟨x0, x1⟩, by omega, by omega, Or.inr (Or.inr (Or.inr e.symm))⟩
  | succ n ih =>
    intro q h
    obtain ⟨p, h1, h2⟩ := h
    obtain ⟨y, x, st, hy, hx, hs, e, o⟩ := ih p h1
    rw [e] at h2
    obtain ⟨h3, h4⟩ := stp_iff.mp h2
    rcases (way_iff Y hy hx hs).mp h3 with ⟨z1, z2⟩ | ⟨z1, z2⟩ | ⟨d, d0, d1, d2, d3, d4, d5, d6, d7⟩
    · refine ⟨y, x, st + 1, hy, hx, ?_, by omega, o⟩
      rcases z1 with z | z <;> omega
    · exact ⟨y, x, st, hy, hx, hs, z2, o⟩
    · exact ⟨y + dY d, x + dX d, st, ⟨d2, d3⟩, ⟨d4, d5⟩, hs, d7, d6⟩
/-- reached, and none enters its cell behind it -/
def rcd (ln wd vn : Int) (k pk tr tb te : Int → Int) (v a b t0 : Int) (n : Nat) (p : Int) : Prop := rch ln wd vn k pk tr tb te v a b t0 n p ∧ ¬ hld vn pk tr tb te v (t0 + n + 1) (p / 3)
theorem dYX (d : Int) (h : 0 ≤ d ∧ d < 4) : (dY d = -1 ∧ dX d = 0 ∧ d = 0) ∨ (dY d = 0 ∧ dX d = 1 ∧ d = 1) ∨ (dY d = 1 ∧ dX d = 0 ∧ d = 2) ∨ (dY d = 0 ∧ dX d = -1 ∧ d = 3) := by
  have : d = 0 ∨ d = 1 ∨ d = 2 ∨ d = 3 := by omega
  rcases this with rfl | rfl | rfl | rfl <;> decide
theorem rch_fwd (Y : Yd ln wd k a b (pk v)) {n : Nat} {y x st : Int} (hy : 0 ≤ y ∧ y < ln) (hx : 0 ≤ x ∧ x < wd) (hs : 0 ≤ st ∧ st < 3) :
    rch ln wd vn k pk tr tb te v a b t0 (n + 1) (3 * (y * wd + x) + st) ↔
    opn k a b (pk v) (y * wd + x) ∧ ¬ hld vn pk tr tb te v (t0 + n) (y * wd + x) ∧ ¬ hld vn pk tr tb te v (t0 + n + 1) (y * wd + x) ∧
    ((rcd ln wd vn k pk tr tb te v a b t0 n (3 * (y * wd + x) + st) ∧ ¬ trn a b st (y * wd + x)) ∨ (1 ≤ st ∧ rcd ln wd vn k pk tr tb te v a b t0 n (3 * (y * wd + x) + (st - 1)) ∧ trn a b (st - 1) (y * wd + x)) ∨
     ∃ d, 0 ≤ d ∧ d < 4 ∧ 0 ≤ y - dY d ∧ y - dY d < ln ∧ 0 ≤ x - dX d ∧ x - dX d < wd ∧ rcd ln wd vn k pk tr tb te v a b t0 n (3 * ((y - dY d) * wd + (x - dX d)) + st)) := by
  have g := gc_in hy.1 hy.2 hx.1 hx.2
  have eq3 : ∀ s', 0 ≤ s' → s' < 3 → (3 * (y * wd + x) + s') / 3 = y * wd + x := fun s' _ _ => by omega
  constructor
  · rintro ⟨p, h1, h2⟩
    obtain ⟨y', x', st', hy', hx', hs', e, o⟩ := rch_in Y n p h1
    have g' := gc_in hy'.1 hy'.2 hx'.1 hx'.2
    obtain ⟨h3, h4⟩ := stp_iff.mp h2
    rw [clr_iff] at h4
    obtain ⟨c1, c2, c3⟩ := h4
    rw [eq3 st hs.1 hs.2] at c1 c2
    have R : rcd ln wd vn k pk tr tb te v a b t0 n p := ⟨h1, c3⟩
    rw [e] at R h3
    rcases (way_iff Y hy' hx' hs').mp h3 with ⟨z1, z2⟩ | ⟨z1, z2⟩ | ⟨d, d0, d1, d2, d3, d4, d5, d6, d7⟩
    · have ec : y * wd + x = y' * wd + x' := by rcases z1 with z | z <;> omega
      have es : st = st' + 1 := by omega
      refine ⟨by rw [ec]; exact o, c1, c2, Or.inr (Or.inl ⟨by omega, ?_, ?_⟩)⟩
      · rw [ec, es, Int.add_sub_cancel]; exact R
      · rw [ec, es, Int.add_sub_cancel]; exact z1
    · have ec : y * wd + x = y' * wd + x' := by omega
      have es : st = st' := by omega
      refine ⟨by rw [ec]; exact o, c1, c2, Or.inl ⟨?_, ?_⟩⟩
      · rw [ec, es]; exact R
      · rw [ec, es]; exact z1
    · have ec : y * wd + x = (y' + dY d) * wd + (x' + dX d) := by omega
      have es : st = st' := by omega
      obtain ⟨ey, ex⟩ := gc_inj hx.1 hx.2 d4 d5 ec
      refine ⟨by rw [ec]; exact d6, c1, c2, Or.inr (Or.inr ⟨d, d0, d1, by omega, by omega, by omega, by omega, ?_⟩)⟩
      have e1 : y - dY d = y' := by omega
      have e2 : x - dX d = x' := by omega
      rw [e1, e2, es]
      exact R
  · rintro ⟨o, c1, c2, h⟩
    have fin : ∀ p, rcd ln wd vn k pk tr tb te v a b t0 n p → (∃ s, 0 ≤ s ∧ s < 5 ∧ ldTo ln wd k a b (pk v) p s = 3 * (y * wd + x) + st ∧ 3 * (y * wd + x) + st ≠ -1) → rch ln wd vn k pk tr tb te v a b t0 (n + 1) (3 * (y * wd + x) + st) := by
      intro p R w
      refine ⟨p, R.1, stp_iff.mpr ⟨w, ?_⟩⟩
      rw [clr_iff, eq3 st hs.1 hs.2]
      exact ⟨c1, c2, R.2⟩
    rcases h with ⟨R, z⟩ | ⟨z0, R, z⟩ | ⟨d, d0, d1, d2, d3, d4, d5, R⟩
    · exact fin _ R ((way_iff Y hy hx hs).mpr (Or.inr (Or.inl ⟨z, rfl⟩)))
    · exact fin _ R ((way_iff Y hy hx (by omega)).mpr (Or.inl ⟨z, by omega⟩))
    · refine fin _ R ((way_iff Y ⟨d2, d3⟩ ⟨d4, d5⟩ hs).mpr (Or.inr (Or.inr ⟨d, d0, d1, ?_⟩)))
      rw [Int.sub_add_cancel, Int.sub_add_cancel]
      exact ⟨hy.1, hy.2, hx.1, hx.2, o, rfl⟩
theorem rch_free {n : Nat} {q : Int} (h : rch ln wd vn k pk tr tb te v a b t0 (n + 1) q) : ¬ hld vn pk tr tb te v (t0 + n) (q / 3) ∧ ¬ hld vn pk tr tb te v (t0 + n + 1) (q / 3) := by
  obtain ⟨p, h1, h2⟩ := h
  have := (clr_iff.mp (stp_iff.mp h2).2)
  exact ⟨this.1, this.2.1⟩
theorem rch_bwd (Y : Yd ln wd k a b (pk v)) {n : Nat} {L : Int → Prop} (hL : ∀ q, L q → rch ln wd vn k pk tr tb te v a b t0 (n + 1) q) {y x st : Int} (hy : 0 ≤ y ∧ y < ln) (hx : 0 ≤ x ∧ x < wd) (hs : 0 ≤ st ∧ st < 3) :
    (rch ln wd vn k pk tr tb te v a b t0 n (3 * (y * wd + x) + st) ∧ ∃ q, stp ln wd vn k pk tr tb te v a b (t0 + n) (3 * (y * wd + x) + st) q ∧ L q) ↔
    rcd ln wd vn k pk tr tb te v a b t0 n (3 * (y * wd + x) + st) ∧ ((L (3 * (y * wd + x) + st) ∧ ¬ trn a b st (y * wd + x)) ∨ (trn a b st (y * wd + x) ∧ L (3 * (y * wd + x) + (st + 1))) ∨
     ∃ d, 0 ≤ d ∧ d < 4 ∧ 0 ≤ y + dY d ∧ y + dY d < ln ∧ 0 ≤ x + dX d ∧ x + dX d < wd ∧ L (3 * ((y + dY d) * wd + (x + dX d)) + st)) := by
  constructor
  · rintro ⟨h1, q, h2, h3⟩
    obtain ⟨w, c⟩ := stp_iff.mp h2
    rw [clr_iff] at c
    refine ⟨⟨h1, c.2.2⟩, ?_⟩
    rcases (way_iff Y hy hx hs).mp w with ⟨z1, z2⟩ | ⟨z1, z2⟩ | ⟨d, d0, d1, d2, d3, d4, d5, d6, d7⟩
    · refine Or.inr (Or.inl ⟨z1, ?_⟩)
      rw [← Int.add_assoc, ← z2]; exact h3
    · exact Or.inl ⟨by rw [← z2]; exact h3, z1⟩
    · exact Or.inr (Or.inr ⟨d, d0, d1, d2, d3, d4, d5, by rw [← d7]; exact h3⟩)
  · rintro ⟨R, h⟩
    refine ⟨R.1, ?_⟩
    have fin : ∀ q, L q → (∃ s, 0 ≤ s ∧ s < 5 ∧ ldTo ln wd k a b (pk v) (3 * (y * wd + x) + st) s = q ∧ q ≠ -1) → ∃ q, stp ln wd vn k pk tr tb te v a b (t0 + n) (3 * (y * wd + x) + st) q ∧ L q := by
      intro q l w
      have f := rch_free (hL q l)
      exact ⟨q, stp_iff.mpr ⟨w, clr_iff.mpr ⟨f.1, f.2, R.2⟩⟩, l⟩
    rcases h with ⟨l, z⟩ | ⟨z, l⟩ | ⟨d, d0, d1, d2, d3, d4, d5, l⟩
    · exact fin _ l ((way_iff Y hy hx hs).mpr (Or.inr (Or.inl ⟨z, rfl⟩)))
    · exact fin _ l ((way_iff Y hy hx hs).mpr (Or.inl ⟨z, by omega⟩))
    · obtain ⟨y', x', st', hy', hx', hs', e, o⟩ := rch_in Y _ _ (hL _ l)
      have ec : (y + dY d) * wd + (x + dX d) = y' * wd + x' := by omega
      refine fin _ l ((way_iff Y hy hx hs).mpr (Or.inr (Or.inr ⟨d, d0, d1, d2, d3, d4, d5, ?_, rfl⟩)))
      rw [ec]; exact o
/-- what leads to the goal at step N: j steps before it -/
def ldn (ln wd vn : Int) (k pk tr tb te : Int → Int) (v a b t0 : Int) (N : Nat) : Nat → Int → Prop
  | 0, p => p = 3 * pk v + 2
  | j + 1, p => rch ln wd vn k pk tr tb te v a b t0 (N - (j + 1)) p ∧ ∃ q, stp ln wd vn k pk tr tb te v a b (t0 + (N - (j + 1) : Nat)) p q ∧ ldn ln wd vn k pk tr tb te v a b t0 N j q
theorem ldn_rch {N : Nat} (hN : rch ln wd vn k pk tr tb te v a b t0 N (3 * pk v + 2)) : ∀ (j : Nat) (p : Int), ldn ln wd vn k pk tr tb te v a b t0 N j p → rch ln wd vn k pk tr tb te v a b t0 (N - j) p := by
  intro j p h
  cases j with
  | zero => rw [show p = 3 * pk v + 2 from h]; exact hN
  | succ j => exact h.1
/-- none is reached once none is -/
theorem rch_none {n : Nat} (h : ∀ p, ¬ rch ln wd vn k pk tr tb te v a b t0 n p) : ∀ (j : Nat) (p : Int), ¬ rch ln wd vn k pk tr tb te v a b t0 (n + j) p := by
  intro j
  induction j with
  | zero => exact h
  | succ j ih =>
    rintro p ⟨q, h1, -⟩
    exact ih q h1
end ZM
