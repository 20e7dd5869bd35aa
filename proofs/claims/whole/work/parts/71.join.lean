section ZJ
variable {j ln wd : Int} {r : zR}
theorem cellBeside_run {c : zI} (hj : 0 ≤ j ∧ j < 2) (e5 : c 30 j 5 = ln * wd) (e6 : c 30 j 6 = wd) (hw : 1 ≤ wd ∧ wd ≤ 16) (hl : 1 ≤ ln ∧ ln ≤ 16) {y x d : Int} (hy : 0 ≤ y ∧ y < ln) (hx : 0 ≤ x ∧ x < wd) (hd : 0 ≤ d ∧ d < 4) (z : Int) (hz : (z = (y + dY d) * wd + (x + dX d) ∧ 0 ≤ y + dY d ∧ y + dY d < ln ∧ 0 ≤ x + dX d ∧ x + dX d < wd) ∨ (z = -1 ∧ ¬ (0 ≤ y + dY d ∧ y + dY d < ln ∧ 0 ≤ x + dX d ∧ x + dX d < wd))) : R0i mX10_cellBeside [.inr (some (30, j)), .inl (y * wd + x), .inl d] c r z := by
  intro P hP
  have g := gc_in hy.1 hy.2 hx.1 hx.2
  have gd := (gc_div y hx.1 hx.2).2
  have mx := mul_bd (a := ln) (b := wd) (A := 16) (B := 16) (by omega) (by omega) (by omega) (by omega)
  have y0 : y * wd + x < wd ↔ y = 0 := by
    constructor
    · intro h
      by_cases q : y = 0
      · exact q
      · have := mul_bd (a := 1) (b := wd) (A := y) (B := wd) (by omega) (by omega) (by omega) (by omega)
        omega
    · intro h; rw [h, Int.zero_mul]; omega
  have yl : ln * wd ≤ y * wd + x + wd ↔ y + 1 = ln := by
    constructor
    · intro h
      by_cases q : y + 1 = ln
      · exact q
      · have := gc_in (ln := ln) (wd := wd) (y := y + 1) (x := x) (by omega) (by omega) hx.1 hx.2
        rw [Int.add_mul] at this
        omega
    · intro h; rw [← h, Int.add_mul]; omega
  have em : (y - 1) * wd = y * wd - wd := by rw [Int.sub_mul, Int.one_mul]
  have ep : (y + 1) * wd = y * wd + wd := by rw [Int.add_mul, Int.one_mul]
  have z1 : zInR (y * wd + x - wd) := ⟨by omega, by omega⟩
  have z2 : zInR (y * wd + x + wd) := ⟨by omega, by omega⟩
  have key : ∀ v, v = z → P v := fun v hv => by rw [hv]; exact hP
  rcases dYX d hd with ⟨a1, a2, a3⟩ | ⟨a1, a2, a3⟩ | ⟨a1, a2, a3⟩ | ⟨a1, a2, a3⟩
  · rw [a1, a2, ← Int.sub_eq_add_neg, em] at hz
    refine GX10_cellBeside j _ d hj ⟨fun q => absurd q (by omega), fun _ => ⟨⟨g.1, by omega⟩, fun q => absurd q (by omega), fun _ => ?_, fun q => absurd q (by omega), fun q => absurd q (by omega), fun q => absurd q (by omega)⟩⟩
    rw [e6]
    exact ⟨fun q => key _ (by omega), fun q => ⟨z1, key _ (by omega)⟩⟩
  · rw [a1, a2, Int.add_zero] at hz
    refine GX10_cellBeside j _ d hj ⟨fun q => absurd q (by omega), fun _ => ⟨⟨g.1, by omega⟩, fun q => absurd q (by omega), fun q => absurd q (by omega), fun _ => ?_, fun q => absurd q (by omega), fun q => absurd q (by omega)⟩⟩
    rw [e6, gd]
    exact ⟨⟨by omega, by omega⟩, fun q => key _ (by omega), fun q => ⟨⟨by omega, by omega⟩, key _ (by omega)⟩⟩
  · rw [a1, a2, Int.add_zero, ep] at hz
    refine GX10_cellBeside j _ d hj ⟨fun q => absurd q (by omega), fun _ => ⟨⟨g.1, by omega⟩, fun q => absurd q (by omega), fun q => absurd q (by omega), fun q => absurd q (by omega), fun _ => ?_, fun q => absurd q (by omega)⟩⟩
    rw [e6, e5]
    exact ⟨z2, fun q => key _ (by omega), fun q => ⟨z2, key _ (by omega)⟩⟩
  · rw [a1, a2, Int.add_zero] at hz
    refine GX10_cellBeside j _ d hj ⟨fun q => absurd q (by omega), fun _ => ⟨⟨g.1, by omega⟩, fun q => absurd q (by omega), fun q => absurd q (by omega), fun q => absurd q (by omega), fun q => absurd q (by omega), fun _ => ?_⟩⟩
    rw [e6, gd]
    exact ⟨fun q => key _ (by omega), fun q => ⟨⟨by omega, by omega⟩, key _ (by omega)⟩⟩
theorem join_side (R : RSc r) (hj : 0 ≤ j ∧ j < 2) (hw : 1 ≤ wd ∧ wd ≤ 16) (hl : 1 ≤ ln ∧ ln ≤ 16) {y x : Int} (hy : 0 ≤ y ∧ y < ln) (hx : 0 ≤ x ∧ x < wd) : ∀ (n : Nat) (d : Int) (c : zI), d + n = 4 → 0 ≤ d → c 30 j 5 = ln * wd → c 30 j 6 = wd →
    ∃ c', (∀ q, q ≠ 33 → c' q = c q) ∧ (∀ i, i ≠ j → c' 33 i = c 33 i) ∧ (∀ s, (s < (y * wd + x) * 4 + d ∨ (y * wd + x) * 4 + 4 ≤ s) → c' 33 j s = c 33 j s) ∧ (∀ d', d ≤ d' → d' < 4 → c' 33 j ((y * wd + x) * 4 + d') = nbr ln wd (c 31 j) (y * wd + x) d') ∧
      ∀ (P : zI → Prop) u3, (∀ u2 u3, WP mX10_joinCells 2 [some (.inr (some (30, j))), some (.inl (y * wd + x + 1)), u2, u3] [] c' r (zQ1v r P)) → WP mX10_joinCells 19 [some (.inr (some (30, j))), some (.inl (y * wd + x)), some (.inl d), u3] [] c r (zQ1v r P) := by
  have g := gc_in hy.1 hy.2 hx.1 hx.2
  have mx := mul_bd (a := ln) (b := wd) (A := 16) (B := 16) (by omega) (by omega) (by omega) (by omega)
  intro n
  induction n with
  | zero =>
    intro d c hn h0 e5 e6
    exact ⟨c, fun _ _ => rfl, fun _ _ => rfl, fun _ _ => rfl, fun d' a b => by omega, fun P u3 hP => GX10_joinCells_19 R j _ d u3 hj ⟨fun _ => ⟨⟨by omega, by omega⟩, hP _ _⟩, fun z => absurd z (by omega)⟩⟩
  | succ n ih =>
    intro d c hn h0 e5 e6
    obtain ⟨v, ev⟩ : ∃ v, v = nbr ln wd (c 31 j) (y * wd + x) d := ⟨_, rfl⟩
    obtain ⟨c', a1, a2, a3, a4, a5⟩ := ih (d + 1) (zup c 33 j ((y * wd + x) * 4 + d) v) (by omega) (by omega) e5 e6
    refine ⟨c', fun q hq => (a1 q hq).trans (zup_kf _ _ _ _ hq), fun i hi => (a2 i hi).trans (zup_jf _ _ _ hi), fun s hs => ?_, fun d' b1 b2 => ?_, fun P u3 hP => ?_⟩
    · rw [a3 s (by omega), zup_f _ _ _ _ _ _ (by omega)]
    · by_cases q : d' = d
      · rw [q, a3 _ (by omega), zup_s, ev]
      · exact a4 d' (by omega) b2
    · have K := fun u3 => a5 P u3 hP
      refine GX10_joinCells_19 R j _ d u3 hj ⟨fun z => absurd z (by omega), fun _ => ?_⟩
      rw [nbr_at (c 31 j) hx.1 hx.2] at ev
      by_cases q : 0 ≤ y + dY d ∧ y + dY d < ln ∧ 0 ≤ x + dX d ∧ x + dX d < wd
      · have g' := gc_in q.1 q.2.1 q.2.2.1 q.2.2.2
        refine cellBeside_run hj e5 e6 hw hl hy hx (by omega) _ (Or.inl ⟨rfl, q⟩) _ ⟨⟨by omega, by omega⟩, ⟨by omega, by omega⟩, kindOf_run R hj (by omega) _ (Or.inl ⟨rfl, g'.1, by omega⟩) _ ⟨fun z => ⟨by omega, ⟨by omega, by omega⟩, ?_⟩, fun z => ⟨by omega, ⟨by omega, by omega⟩, ?_⟩⟩⟩
        · rw [if_neg (by omega)] at ev
          rw [ev] at K; exact K _
        · rw [if_pos (by omega)] at ev
          rw [ev] at K; exact K _
      · rw [if_pos (by omega)] at ev
        refine cellBeside_run hj e5 e6 hw hl hy hx (by omega) (-1) (Or.inr ⟨rfl, q⟩) _ ⟨⟨by omega, by omega⟩, ⟨by omega, by omega⟩, kindOf_run R hj (by omega) (-1) (Or.inr ⟨rfl, by omega⟩) _ ⟨fun z => ⟨by omega, ⟨by omega, by omega⟩, ?_⟩, fun z => absurd z (by decide)⟩⟩
        rw [ev] at K; exact K _
theorem join_from (R : RSc r) (hj : 0 ≤ j ∧ j < 2) (hw : 1 ≤ wd ∧ wd ≤ 16) (hl : 1 ≤ ln ∧ ln ≤ 16) : ∀ (n : Nat) (i : Int) (c : zI), i + n = ln * wd → 0 ≤ i → c 30 j 5 = ln * wd → c 30 j 6 = wd →
    ∃ c', (∀ q, q ≠ 33 → c' q = c q) ∧ (∀ i, i ≠ j → c' 33 i = c 33 i) ∧ (∀ s, s < i * 4 → c' 33 j s = c 33 j s) ∧ (∀ i' d, i ≤ i' → i' < ln * wd → 0 ≤ d → d < 4 → c' 33 j (i' * 4 + d) = nbr ln wd (c 31 j) i' d) ∧
      ∀ (P : zI → Prop) u2 u3, P c' → WP mX10_joinCells 2 [some (.inr (some (30, j))), some (.inl i), u2, u3] [] c r (zQ1v r P) := by
  have mx := mul_bd (a := ln) (b := wd) (A := 16) (B := 16) (by omega) (by omega) (by omega) (by omega)
  intro n
  induction n with
  | zero =>
    intro i c hn h0 e5 e6
    exact ⟨c, fun _ _ => rfl, fun _ _ => rfl, fun _ _ => rfl, fun i' d a b => by omega, fun P u2 u3 hP => GX10_joinCells_2 j i u2 u3 hj ⟨fun _ => hP, fun z => absurd z (by omega)⟩⟩
  | succ n ih =>
    intro i c hn h0 e5 e6
    obtain ⟨y, x, y0, y1, x0, x1, e⟩ := gc_of hw.1 h0 (show i < ln * wd by omega)
    obtain ⟨c1, a1, a2, a3, a4, a5⟩ := join_side R hj hw hl ⟨y0, y1⟩ ⟨x0, x1⟩ 4 0 c (by omega) (by omega) e5 e6
    rw [← e] at a3 a4 a5
    obtain ⟨c2, b1, b2, b3, b4, b5⟩ := ih (i + 1) c1 (by omega) (by omega) (by rw [a1 30 (by decide)]; exact e5) (by rw [a1 30 (by decide)]; exact e6)
    refine ⟨c2, fun q hq => (b1 q hq).trans (a1 q hq), fun i hi => (b2 i hi).trans (a2 i hi), fun s hs => (b3 s (by omega)).trans (a3 s (by omega)), fun i' d g1 g2 g3 g4 => ?_, fun P u2 u3 hP => GX10_joinCells_2 j i u2 u3 hj ⟨fun z => absurd z (by omega), fun _ => ⟨fun z => absurd z (by omega), fun _ => a5 P u3 (fun v2 v3 => b5 P v2 v3 hP)⟩⟩⟩
    · by_cases q : i' = i
      · rw [q, b3 _ (by omega)]
        exact a4 d g3 g4
      · rw [b4 i' d (by omega) g2 g3 g4, a1 31 (by decide)]
end ZJ
