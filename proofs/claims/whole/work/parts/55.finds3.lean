section ZP
variable {ln wd vn v a b t0 : Int} {k pk tr tb te : Int → Int}
/-- place p of layer n while its steps are tried -/
def FB (n : Int) (p : Int) (m hi : zI) (B : Prop) : Prop := (∀ q, q ≠ 58 → hi q = m q) ∧ (∀ z, z ≠ 768 * n + p → hi 58 0 z = m 58 0 z) ∧ (hi 58 0 (768 * n + p) ≠ 0 ↔ B)
theorem finds_295 {m : zI} (E : ME m ln wd vn v a b t0 k pk tr tb te) {n : Nat} (hn : n < 300) {p : Int} (hp : 0 ≤ p ∧ p < 3 * (ln * wd)) (a5 a6 : Int) {L : Int → Prop} (hL : ∀ q, 0 ≤ q → q < 768 → (m 58 0 (768 * ((n : Int) + 1) + q) ≠ 0 ↔ L q)) : ∀ (j : Nat) (s : Int) (hi : zI), s + j = 5 → 0 ≤ s → FB n p m hi (∃ s', 0 ≤ s' ∧ s' < s ∧ ∃ q, wy ln wd vn k pk tr tb te v a b (t0 + n) p s' q ∧ L q) →
    ∃ hi', FB n p m hi' (∃ s', 0 ≤ s' ∧ s' < 5 ∧ ∃ q, wy ln wd vn k pk tr tb te v a b (t0 + n) p s' q ∧ L q) ∧
      ∀ r, RSm r → ∀ (P : Int → zI → Prop) u10, (∀ u9 u10, WP mX12_finds 256 [some (.inr (some (37, 0))), some (.inl v), some (.inl a), some (.inl b), some (.inl t0), some (.inl a5), some (.inl a6), some (.inl n), some (.inl (p + 1)), u9, u10, none] [] hi' r (zQ1i r P)) →
        WP mX12_finds 295 [some (.inr (some (37, 0))), some (.inl v), some (.inl a), some (.inl b), some (.inl t0), some (.inl a5), some (.inl a6), some (.inl n), some (.inl p), some (.inl s), u10, none] [] hi r (zQ1i r P) := by
  have Y := E.2.2.2.2.2.1
  have y2 := yd_256 Y
  have ht0 := E.2.2.2.2.1
  intro j
  induction j with
  | zero =>
    intro s hi hj h0 F
    have e : s = 5 := by omega
    subst e
    exact ⟨hi, F, fun r hM P u10 hP => GX12_finds_295 hM v a b t0 a5 a6 n p 5 u10 ⟨fun _ => ⟨⟨by omega, by omega⟩, hP _ _⟩, fun q => absurd q (by omega)⟩⟩
  | succ j ih =>
    intro s hi hj h0 F
    have E1 : ME hi ln wd vn v a b t0 k pk tr tb te := E.keep (fun q _ x => F.1 q x)
    have zs : zInR (s + 1) := ⟨by omega, by omega⟩
    have bd := ldTo_bd (p := p) (s := s) Y hp.1 (by omega) (by omega)
    obtain ⟨q, eq⟩ : ∃ q, q = ldTo ln wd k a b (pk v) p s := ⟨_, rfl⟩
    rw [← eq] at bd
    have ld : ∀ r, RSm r → R0i mX12_leadsTo [.inr (some (37, 0)), .inl v, .inl a, .inl b, .inl p, .inl s] hi r q := fun r hM => by
      rw [eq]; exact leadsTo_run hM E1 (by omega) (by omega)
    -- where this step leads to nothing
    have no : (∀ q', wy ln wd vn k pk tr tb te v a b (t0 + n) p s q' → ¬ L q') → FB n p m hi (∃ s', 0 ≤ s' ∧ s' < s + 1 ∧ ∃ q, wy ln wd vn k pk tr tb te v a b (t0 + n) p s' q ∧ L q) := by
      intro h
      refine ⟨F.1, F.2.1, F.2.2.trans ⟨?_, ?_⟩⟩
      · rintro ⟨s', y1, y2, y3⟩
        exact ⟨s', y1, by omega, y3⟩
      · rintro ⟨s', y1, y2, q', y3, y4⟩
        by_cases w : s' = s
        · rw [w] at y3; exact absurd y4 (h q' y3)
        · exact ⟨s', y1, by omega, q', y3, y4⟩
    by_cases q1 : q = -1
    · obtain ⟨hi', G, w⟩ := ih (s + 1) hi (by omega) (by omega) (no (fun q' y => absurd (y.1.symm.trans (eq.symm.trans q1)) y.2.1))
      exact ⟨hi', G, fun r hM P u10 hP => GX12_finds_295 hM v a b t0 a5 a6 n p s u10 ⟨fun z => absurd z (by omega), fun _ => ld r hM _ ⟨fun _ => ⟨zs, w r hM P _ hP⟩, fun z => absurd q1 z⟩⟩⟩
    · have hb : hi 58 0 (768 * ((n : Int) + 1) + q) ≠ 0 ↔ L q := by
        rw [F.2.1 _ (by omega)]
        exact hL q (by omega) (by omega)
      by_cases q2 : L q
      · obtain ⟨c, hc⟩ : ∃ c, c = clr vn pk tr tb te v (t0 + n) (p / 3) (q / 3) := ⟨_, rfl⟩
        by_cases q3 : clr vn pk tr tb te v (t0 + n) (p / 3) (q / 3)
        · obtain ⟨hi', G, w⟩ := ih (s + 1) (zup hi 58 0 (768 * (n : Int) + p) 1) (by omega) (by omega) ⟨fun z y => (zup_kf _ _ _ _ y).trans (F.1 z y), fun z y => by rw [zup_at, if_neg y]; exact F.2.1 z y, by rw [zup_at, if_pos rfl]; exact ⟨fun _ => ⟨s, h0, by omega, q, ⟨eq.symm, q1, q3⟩, q2⟩, fun _ => by decide⟩⟩
          refine ⟨hi', G, fun r hM P u10 hP => ?_⟩
          obtain ⟨x, x1, x2⟩ := isClear_run (t := t0 + n) (here := p / 3) (there := q / 3) hM E1 (by omega)
          have ex : x ≠ 0 := by
            rcases x1 with ⟨y, -⟩ | ⟨-, y⟩
            · omega
            · exact absurd q3 y
          exact GX12_finds_295 hM v a b t0 a5 a6 n p s u10 ⟨fun z => absurd z (by omega), fun _ => ld r hM _ ⟨fun z => absurd z q1, fun _ => ⟨⟨by omega, by omega⟩, ⟨by omega, by omega⟩, ⟨by omega, by omega⟩, by omega, fun z => absurd z (hb.mpr q2), fun _ => ⟨⟨by omega, by omega⟩, hp.1, by omega, x2 _ ⟨fun z => absurd z ex, fun _ => ⟨⟨by omega, by omega⟩, ⟨by omega, by omega⟩, by omega, zs, w r hM P _ hP⟩⟩⟩⟩⟩⟩
        · obtain ⟨hi', G, w⟩ := ih (s + 1) hi (by omega) (by omega) (no (fun q' y => by
            have ez : q' = q := y.1.symm.trans eq.symm
            have := y.2.2
            rw [ez] at this
            exact absurd this q3))
          refine ⟨hi', G, fun r hM P u10 hP => ?_⟩
          obtain ⟨x, x1, x2⟩ := isClear_run (t := t0 + n) (here := p / 3) (there := q / 3) hM E1 (by omega)
          have ex : x = 0 := by
            rcases x1 with ⟨-, y⟩ | ⟨y, -⟩
            · exact absurd y q3
            · exact y
          exact GX12_finds_295 hM v a b t0 a5 a6 n p s u10 ⟨fun z => absurd z (by omega), fun _ => ld r hM _ ⟨fun z => absurd z q1, fun _ => ⟨⟨by omega, by omega⟩, ⟨by omega, by omega⟩, ⟨by omega, by omega⟩, by omega, fun z => absurd z (hb.mpr q2), fun _ => ⟨⟨by omega, by omega⟩, hp.1, by omega, x2 _ ⟨fun _ => ⟨zs, w r hM P _ hP⟩, fun z => absurd ex z⟩⟩⟩⟩⟩
      · obtain ⟨hi', G, w⟩ := ih (s + 1) hi (by omega) (by omega) (no (fun q' y => by
          have ez : q' = q := y.1.symm.trans eq.symm
          rw [ez]; exact q2))
        have hz : hi 58 0 (768 * ((n : Int) + 1) + q) = 0 := by
          by_cases z : hi 58 0 (768 * ((n : Int) + 1) + q) = 0
          · exact z
          · exact absurd (hb.mp z) q2
        exact ⟨hi', G, fun r hM P u10 hP => GX12_finds_295 hM v a b t0 a5 a6 n p s u10 ⟨fun z => absurd z (by omega), fun _ => ld r hM _ ⟨fun z => absurd z q1, fun _ => ⟨⟨by omega, by omega⟩, ⟨by omega, by omega⟩, ⟨by omega, by omega⟩, by omega, fun _ => ⟨zs, w r hM P _ hP⟩, fun z => absurd hz z⟩⟩⟩⟩
/-- layer n while it is looked through -/
def FL (n : Int) (m hi : zI) (B : Int → Prop) : Prop := (∀ q, q ≠ 58 → hi q = m q) ∧ (∀ z, (z < 768 * n ∨ 768 * n + 768 ≤ z) → hi 58 0 z = m 58 0 z) ∧ (∀ p, 0 ≤ p → p < 768 → (hi 58 0 (768 * n + p) ≠ 0 ↔ B p))
theorem finds_256 {m : zI} (E : ME m ln wd vn v a b t0 k pk tr tb te) {n : Nat} (hn : n < 300) (a5 a6 : Int) {L : Int → Prop} (hC : ∀ p, 0 ≤ p → p < 768 → (m 57 0 (768 * (n : Int) + p) ≠ 0 ↔ rch ln wd vn k pk tr tb te v a b t0 n p)) (hL : ∀ q, 0 ≤ q → q < 768 → (m 58 0 (768 * ((n : Int) + 1) + q) ≠ 0 ↔ L q)) : ∀ (j : Nat) (p : Int) (hi : zI), p + j = 3 * (ln * wd) → 0 ≤ p → FL n m hi (fun p' => p' < p ∧ rch ln wd vn k pk tr tb te v a b t0 n p' ∧ ∃ q, stp ln wd vn k pk tr tb te v a b (t0 + n) p' q ∧ L q) →
    ∃ hi', FL n m hi' (fun p' => rch ln wd vn k pk tr tb te v a b t0 n p' ∧ ∃ q, stp ln wd vn k pk tr tb te v a b (t0 + n) p' q ∧ L q) ∧
      ∀ r, RSm r → ∀ (P : Int → zI → Prop) u9 u10, (∀ u8 u9 u10, WP mX12_finds 248 [some (.inr (some (37, 0))), some (.inl v), some (.inl a), some (.inl b), some (.inl t0), some (.inl a5), some (.inl a6), some (.inl ((n : Int) + (-1))), u8, u9, u10, none] [] hi' r (zQ1i r P)) →
        WP mX12_finds 256 [some (.inr (some (37, 0))), some (.inl v), some (.inl a), some (.inl b), some (.inl t0), some (.inl a5), some (.inl a6), some (.inl n), some (.inl p), u9, u10, none] [] hi r (zQ1i r P) := by
  have Y := E.2.2.2.2.2.1
  have y2 := yd_256 Y
  have hl := Y.1
  have e3 : 3 * ln * wd = 3 * (ln * wd) := Int.mul_assoc 3 ln wd
  intro j
  induction j with
  | zero =>
    intro p hi hj h0 F
    have e5 : hi 37 0 5 = ln := by rw [F.1 37 (by decide)]; exact E.1.1
    have e6 : hi 37 0 6 = wd := by rw [F.1 37 (by decide)]; exact E.1.2.1
    refine ⟨hi, ⟨F.1, F.2.1, fun p' a0 a1 => (F.2.2 p' a0 a1).trans ⟨fun z => z.2, fun z => ⟨by have := (rch_bd Y z.1).2; omega, z⟩⟩⟩, fun r hM P u9 u10 hP => ?_⟩
    refine GX12_finds_256 hM v a b t0 a5 a6 n p u9 u10 ?_
    rw [e5, e6, e3]
    exact ⟨⟨by omega, by omega⟩, ⟨by omega, by omega⟩, fun _ => ⟨⟨by omega, by omega⟩, hP _ _ _⟩, fun q => absurd q (by omega)⟩
  | succ j ih =>
    intro p hi hj h0 F
    have e5 : hi 37 0 5 = ln := by rw [F.1 37 (by decide)]; exact E.1.1
    have e6 : hi 37 0 6 = wd := by rw [F.1 37 (by decide)]; exact E.1.2.1
    have hb : hi 57 0 (768 * (n : Int) + p) ≠ 0 ↔ rch ln wd vn k pk tr tb te v a b t0 n p := by
      rw [F.1 57 (by decide)]
      exact hC p h0 (by omega)
    by_cases q : rch ln wd vn k pk tr tb te v a b t0 n p
    · have E1 : ME hi ln wd vn v a b t0 k pk tr tb te := E.keep (fun q _ x => F.1 q x)
      obtain ⟨h1, F1, w1⟩ := finds_295 E1 hn (p := p) ⟨h0, by omega⟩ a5 a6 (L := L) (fun q q0 q1 => by rw [F.2.1 _ (by omega)]; exact hL q q0 q1) 5 0 hi (by omega) (by omega) ⟨fun _ _ => rfl, fun _ _ => rfl, (F.2.2 p h0 (by omega)).trans ⟨fun z => by omega, fun ⟨s', z1, z2, _⟩ => by omega⟩⟩
      obtain ⟨h2, F2, w2⟩ := ih (p + 1) h1 (by omega) (by omega) ⟨fun z y => (F1.1 z y).trans (F.1 z y), fun z y => (F1.2.1 z (by omega)).trans (F.2.1 z y), fun p' a0 a1 => by
        by_cases w : p' = p
        · rw [w]
          refine F1.2.2.trans ⟨?_, ?_⟩
          · rintro ⟨s', x1, x2, q', x3, x4⟩
            exact ⟨by omega, q, q', ⟨s', x1, x2, x3⟩, x4⟩
          · rintro ⟨-, -, q', ⟨s', x1, x2, x3⟩, x4⟩
            exact ⟨s', x1, x2, q', x3, x4⟩
        · rw [F1.2.1 _ (by omega)]
          exact (F.2.2 p' a0 a1).trans ⟨fun z => ⟨by omega, z.2⟩, fun z => ⟨by omega, z.2⟩⟩⟩
      refine ⟨h2, F2, fun r hM P u9 u10 hP => GX12_finds_256 hM v a b t0 a5 a6 n p u9 u10 ?_⟩
      rw [e5, e6, e3]
      exact ⟨⟨by omega, by omega⟩, ⟨by omega, by omega⟩, fun z => absurd z (by omega), fun _ => ⟨⟨by omega, by omega⟩, ⟨by omega, by omega⟩, by omega, fun _ => w1 r hM P _ (fun u9' u10' => w2 r hM P u9' u10' hP), fun z => absurd z (hb.mpr q)⟩⟩
    · obtain ⟨h2, F2, w2⟩ := ih (p + 1) hi (by omega) (by omega) ⟨F.1, F.2.1, fun p' a0 a1 => (F.2.2 p' a0 a1).trans ⟨fun z => ⟨by omega, z.2⟩, fun z => ⟨by
        by_cases w : p' = p
        · rw [w] at z; exact absurd z.2.1 q
        · omega, z.2⟩⟩⟩
      have hz : hi 57 0 (768 * (n : Int) + p) = 0 := by
        by_cases z : hi 57 0 (768 * (n : Int) + p) = 0
        · exact z
        · exact absurd (hb.mp z) q
      refine ⟨h2, F2, fun r hM P u9 u10 hP => GX12_finds_256 hM v a b t0 a5 a6 n p u9 u10 ?_⟩
      rw [e5, e6, e3]
      exact ⟨⟨by omega, by omega⟩, ⟨by omega, by omega⟩, fun z => absurd z (by omega), fun _ => ⟨⟨by omega, by omega⟩, ⟨by omega, by omega⟩, by omega, fun z => absurd hz z, fun _ => ⟨⟨by omega, by omega⟩, w2 r hM P u9 u10 hP⟩⟩⟩
theorem finds_248 {N : Nat} (hN : N ≤ 300) (a5 : Int) : ∀ (n : Nat) (hi : zI), n ≤ N → ME hi ln wd vn v a b t0 k pk tr tb te → (∀ i : Nat, i ≤ N → ∀ p, 0 ≤ p → p < 768 → (hi 57 0 (768 * (i : Int) + p) ≠ 0 ↔ rch ln wd vn k pk tr tb te v a b t0 i p)) → (∀ z, 0 ≤ z → z < 768 * (n : Int) → hi 58 0 z = 0) → (∀ i : Nat, n ≤ i → i ≤ N → ∀ p, 0 ≤ p → p < 768 → (hi 58 0 (768 * (i : Int) + p) ≠ 0 ↔ ldn ln wd vn k pk tr tb te v a b t0 N (N - i) p)) →
    ∃ hi', (∀ q, q ≠ 58 → hi' q = hi q) ∧ (∀ i : Nat, i ≤ N → ∀ p, 0 ≤ p → p < 768 → (hi' 58 0 (768 * (i : Int) + p) ≠ 0 ↔ ldn ln wd vn k pk tr tb te v a b t0 N (N - i) p)) ∧
      ∀ r, RSm r → ∀ (P : Int → zI → Prop) u8 u9 u10, (∀ u9 u10, WP mX12_finds 448 [some (.inr (some (37, 0))), some (.inl v), some (.inl a), some (.inl b), some (.inl t0), some (.inl a5), some (.inl N), some (.inl (3 * pk v)), some (.inl 0), u9, u10, none] [] (zup (zup (zup (zup hi' 52 0 v t0) 53 0 v (t0 + N)) 54 0 v 0) 51 0 (301 * v) (pk v)) r (zQ1i r P)) →
        WP mX12_finds 248 [some (.inr (some (37, 0))), some (.inl v), some (.inl a), some (.inl b), some (.inl t0), some (.inl a5), some (.inl N), some (.inl ((n : Int) - 1)), u8, u9, u10, none] [] hi r (zQ1i r P) := by
  intro n
  induction n with
  | zero =>
    intro hi hn E hC hz hL
    obtain ⟨-, ⟨-, ep, -⟩, hvn, hv, ht, Y, -⟩ := E
    have y2 := yd_256 Y
    have hp := Y.2.2.2.2.2
    have e42 : hi 42 0 v = pk v := by rw [ep]
    refine ⟨hi, fun _ _ => rfl, fun i i0 => hL i (by omega) i0, fun r hM P u8 u9 u10 hP => GX12_finds_248 hM v a b t0 a5 N _ u8 u9 u10 ⟨fun _ => ?_, fun q => absurd q (by omega)⟩⟩
    rw [e42]
    exact ⟨by omega, ⟨by omega, by omega⟩, by omega, by omega, by omega, ⟨by omega, by omega⟩, ⟨by omega, by omega⟩, by omega, by omega, hP _ _⟩
  | succ n ih =>
    intro hi hn E hC hz hL
    have Y := E.2.2.2.2.2.1
    have y2 := yd_256 Y
    have ec : ((n + 1 : Nat) : Int) = (n : Int) + 1 := by omega
    have eN2 : N - n = (N - (n + 1)) + 1 := by omega
    have L1 := hL (n + 1) (by omega) hn
    rw [ec] at L1
    obtain ⟨h1, F, w⟩ := finds_256 E (n := n) (by omega) a5 N (hC n (by omega)) L1 (3 * (ln * wd)).toNat 0 hi (by omega) (by omega) ⟨fun _ _ => rfl, fun _ _ => rfl, fun p p0 p1 => ⟨fun z => absurd (hz _ (by omega) (by omega)) z, fun z => by omega⟩⟩
    obtain ⟨h2, f1, f2, f3⟩ := ih h1 (by omega) (E.keep (fun q _ x => F.1 q x)) (fun i i0 p p0 p1 => by rw [F.1 57 (by decide)]; exact hC i i0 p p0 p1) (fun z z0 z1 => by rw [F.2.1 z (by omega)]; exact hz z z0 (by omega)) (fun i i0 i1 p p0 p1 => by
      by_cases q : i = n
      · subst q
        rw [F.2.2 p p0 p1, eN2]
        show _ ↔ (rch ln wd vn k pk tr tb te v a b t0 (N - (N - (i + 1) + 1)) p ∧ ∃ q, stp ln wd vn k pk tr tb te v a b (t0 + ((N - (N - (i + 1) + 1) : Nat) : Int)) p q ∧ ldn ln wd vn k pk tr tb te v a b t0 N (N - (i + 1)) q)
        rw [show N - (N - (i + 1) + 1) = i by omega]
      · rw [F.2.1 _ (by omega)]
        exact hL i (by omega) i1 p p0 p1)
    refine ⟨h2, fun q hq => (f1 q hq).trans (F.1 q hq), f2, fun r hM P u8 u9 u10 hP => ?_⟩
    have e1 : ((n + 1 : Nat) : Int) - 1 = n := by omega
    rw [e1]
    refine GX12_finds_248 hM v a b t0 a5 N _ u8 u9 u10 ⟨fun q => absurd q (by omega), fun _ => w r hM P _ _ (fun u8' u9' u10' => ?_)⟩
    exact f3 r hM P u8' u9' u10' hP
/-- the reference's search up to where it follows the trip -/
theorem finds_run {m : zI} {r0 : zR} (hM0 : RSm r0) (E : ME m ln wd vn v a b t0 k pk tr tb te) : ∃ m', fdE m m' ∧
    ((¬ Fnd ln wd vn k pk tr tb te v a b t0 ∧ ∀ r, RSm r → R1i mX12_finds [.inr (some (37, 0)), .inl v, .inl a, .inl b, .inl t0] m r 0 m') ∨
     ∃ N : Nat, N ≤ 300 ∧ rch ln wd vn k pk tr tb te v a b t0 N (3 * pk v + 2) ∧ (∀ i : Nat, i < N → ¬ rch ln wd vn k pk tr tb te v a b t0 i (3 * pk v + 2)) ∧ (∀ i : Nat, i ≤ N → ∀ p, 0 ≤ p → p < 768 → (m' 58 0 (768 * (i : Int) + p) ≠ 0 ↔ ldn ln wd vn k pk tr tb te v a b t0 N (N - i) p)) ∧
       ∀ r, RSm r → ∀ (P : Int → zI → Prop), (∀ u9 u10, WP mX12_finds 448 [some (.inr (some (37, 0))), some (.inl v), some (.inl a), some (.inl b), some (.inl t0), some (.inl (3 * pk v + 2)), some (.inl N), some (.inl (3 * pk v)), some (.inl 0), u9, u10, none] [] (zup (zup (zup (zup m' 52 0 v t0) 53 0 v (t0 + N)) 54 0 v 0) 51 0 (301 * v) (pk v)) r (zQ1i r P)) → W1i mX12_finds [.inr (some (37, 0)), .inl v, .inl a, .inl b, .inl t0] m r P) := by
  have hvn := E.2.2.1
  have hv := E.2.2.2.1
  have Y := E.2.2.2.2.2.1
  have y2 := yd_256 Y
  have hp := Y.2.2.2.2.2
  have e42 : m 42 0 v = pk v := by rw [E.2.1.2.1]
  obtain ⟨h1, a1, a2, a3, a4⟩ := finds_clear (v := v) (a := a) (b := b) (t0 := t0) hM0 (3 * pk v + 2) 231168 0 m (by omega) (by omega)
  have e42' : h1 42 0 v = pk v := by rw [a1 42 (by decide) (by decide)]; exact e42
  obtain ⟨h2, eh2⟩ : ∃ h2, h2 = zup h1 57 0 (3 * pk v) 1 := ⟨_, rfl⟩
  have fd2 : fdE m h2 := by rw [eh2]; exact a1.z57 _ _
  have C0 : CM ln wd vn k pk tr tb te v a b t0 0 h2 := by
    refine ⟨fun i i0 p p0 p1 => ?_, fun z z0 z1 => ?_, fun z z0 z1 => ?_⟩
    · have : i = 0 := by omega
      subst this
      rw [eh2, zup_at]
      show _ ↔ p = 3 * pk v
      by_cases q : p = 3 * pk v
      · rw [if_pos (by omega)]
        exact ⟨fun _ => q, fun _ => by decide⟩
      · rw [if_neg (by omega), a2, if_pos (by omega)]
        exact ⟨fun z => absurd rfl z, fun z => absurd z q⟩
    · rw [eh2, zup_at, if_neg (by omega), a2, if_pos (by omega)]
    · rw [eh2, zup_kf _ _ _ _ (show (58 : Nat) ≠ 57 by decide), a3, if_pos (by omega)]
  obtain ⟨h3, f1, f2⟩ := finds_61 300 0 h2 (by omega) (E.keep fd2) C0 (fun i hi => by omega)
  have go : ∀ r, RSm r → ∀ P : Int → zI → Prop, WP mX12_finds 61 [some (.inr (some (37, 0))), some (.inl v), some (.inl a), some (.inl b), some (.inl t0), some (.inl (3 * pk v + 2)), some (.inl 0), none, none, none, none, none] [] h2 r (zQ1i r P) → W1i mX12_finds [.inr (some (37, 0)), .inl v, .inl a, .inl b, .inl t0] m r P := by
    intro r hM P hP
    have := a4 r hM P
    rw [e42', ← eh2] at this
    refine GX12_finds hM v a b t0 ?_
    rw [e42]
    exact ⟨by omega, ⟨by omega, by omega⟩, ⟨by omega, by omega⟩, this ⟨by omega, ⟨by omega, by omega⟩, by omega, hP⟩⟩
  rcases f2 with ⟨x1, x2⟩ | ⟨N, x1, x2, x3, x4, x5⟩
  · exact ⟨h3, fd2.trans f1, Or.inl ⟨x1, fun r hM P hP => go r hM P (x2 r hM P none none none none hP)⟩⟩
  · obtain ⟨h4, eh4⟩ : ∃ h4, h4 = zup h3 58 0 (768 * (N : Int) + (3 * pk v + 2)) 1 := ⟨_, rfl⟩
    have fd4 : fdE m h4 := by rw [eh4]; exact (fd2.trans f1).z58 _ _
    obtain ⟨h5, g1, g2, g3⟩ := finds_248 x1 (3 * pk v + 2) N h4 (Nat.le_refl N) (E.keep fd4) (fun i i0 p p0 p1 => by
        rw [eh4, zup_kf _ _ _ _ (show (57 : Nat) ≠ 58 by decide)]
        exact x4.1 i i0 p p0 p1) (fun z z0 z1 => by
        rw [eh4, zup_at, if_neg (by omega)]
        exact x4.2.2 z z0 (by omega)) (fun i i0 i1 p p0 p1 => by
        have : i = N := by omega
        subst this
        rw [Nat.sub_self, eh4, zup_at]
        show _ ↔ p = 3 * pk v + 2
        by_cases q : p = 3 * pk v + 2
        · rw [if_pos (by omega)]
          exact ⟨fun _ => q, fun _ => by decide⟩
        · rw [if_neg (by omega), x4.2.2 _ (by omega) (by omega)]
          exact ⟨fun z => absurd rfl z, fun z => absurd z q⟩)
    refine ⟨h5, fd4.trans (fun q _ y => g1 q y), Or.inr ⟨N, x1, x2, x3, g2, fun r hM P hP => go r hM P (x5 r hM P none none none none (fun u8 u9 u10 => ?_))⟩⟩
    rw [← eh4]
    exact g3 r hM P u8 u9 u10 hP
end ZP
