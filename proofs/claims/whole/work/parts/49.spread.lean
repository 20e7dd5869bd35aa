theorem zacl (a b : Int) : a + b - a = b := by omega
/-- the four cells beside one -/
def nb4 (ln wd y x : Int) (X : Int → Prop) : Prop := (1 ≤ x ∧ X (y * wd + (x - 1))) ∨ (x + 1 < wd ∧ X (y * wd + (x + 1))) ∨ (0 < y ∧ X ((y - 1) * wd + x)) ∨ (y + 1 < ln ∧ X ((y + 1) * wd + x))
theorem nb4_minus {ln wd y x : Int} {X : Int → Prop} (hy : 0 ≤ y ∧ y < ln) (hx : 0 ≤ x ∧ x < wd) : nb4 ln wd y x X ↔ ∃ d, 0 ≤ d ∧ d < 4 ∧ 0 ≤ y - dY d ∧ y - dY d < ln ∧ 0 ≤ x - dX d ∧ x - dX d < wd ∧ X ((y - dY d) * wd + (x - dX d)) := by
  constructor
  · rintro (⟨h1, h2⟩ | ⟨h1, h2⟩ | ⟨h1, h2⟩ | ⟨h1, h2⟩)
    · refine ⟨1, by omega, by omega, ?_⟩
      have e1 : dY 1 = 0 := by decide
      have e2 : dX 1 = 1 := by decide
      rw [e1, e2, Int.sub_zero]
      exact ⟨hy.1, hy.2, by omega, by omega, h2⟩
    · refine ⟨3, by omega, by omega, ?_⟩
      have e1 : dY 3 = 0 := by decide
      have e2 : dX 3 = -1 := by decide
      rw [e1, e2, Int.sub_zero, Int.sub_neg]
      exact ⟨hy.1, hy.2, by omega, by omega, h2⟩
    · refine ⟨2, by omega, by omega, ?_⟩
      have e1 : dY 2 = 1 := by decide
      have e2 : dX 2 = 0 := by decide
      rw [e1, e2, Int.sub_zero]
      exact ⟨by omega, by omega, hx.1, hx.2, h2⟩
    · refine ⟨0, by omega, by omega, ?_⟩
      have e1 : dY 0 = -1 := by decide
      have e2 : dX 0 = 0 := by decide
      rw [e1, e2, Int.sub_zero, Int.sub_neg]
      exact ⟨by omega, by omega, hx.1, hx.2, h2⟩
  · rintro ⟨d, d0, d1, d2, d3, d4, d5, d6⟩
    rcases dYX d ⟨d0, d1⟩ with ⟨e1, e2, -⟩ | ⟨e1, e2, -⟩ | ⟨e1, e2, -⟩ | ⟨e1, e2, -⟩
    · rw [e1, e2, Int.sub_zero, Int.sub_neg] at d6
      exact Or.inr (Or.inr (Or.inr ⟨by omega, d6⟩))
    · rw [e1, e2, Int.sub_zero] at d6
      exact Or.inl ⟨by omega, d6⟩
    · rw [e1, e2, Int.sub_zero] at d6
      exact Or.inr (Or.inr (Or.inl ⟨by omega, d6⟩))
    · rw [e1, e2, Int.sub_zero, Int.sub_neg] at d6
      exact Or.inr (Or.inl ⟨by omega, d6⟩)
theorem nb4_plus {ln wd y x : Int} {X : Int → Prop} (hy : 0 ≤ y ∧ y < ln) (hx : 0 ≤ x ∧ x < wd) : nb4 ln wd y x X ↔ ∃ d, 0 ≤ d ∧ d < 4 ∧ 0 ≤ y + dY d ∧ y + dY d < ln ∧ 0 ≤ x + dX d ∧ x + dX d < wd ∧ X ((y + dY d) * wd + (x + dX d)) := by
  constructor
  · rintro (⟨h1, h2⟩ | ⟨h1, h2⟩ | ⟨h1, h2⟩ | ⟨h1, h2⟩)
    · refine ⟨3, by omega, by omega, ?_⟩
      have e1 : dY 3 = 0 := by decide
      have e2 : dX 3 = -1 := by decide
      rw [e1, e2, Int.add_zero, ← Int.sub_eq_add_neg]
      exact ⟨hy.1, hy.2, by omega, by omega, h2⟩
    · refine ⟨1, by omega, by omega, ?_⟩
      have e1 : dY 1 = 0 := by decide
      have e2 : dX 1 = 1 := by decide
      rw [e1, e2, Int.add_zero]
      exact ⟨hy.1, hy.2, by omega, by omega, h2⟩
    · refine ⟨0, by omega, by omega, ?_⟩
      have e1 : dY 0 = -1 := by decide
      have e2 : dX 0 = 0 := by decide
      rw [e1, e2, Int.add_zero, ← Int.sub_eq_add_neg]
      exact ⟨by omega, by omega, hx.1, hx.2, h2⟩
    · refine ⟨2, by omega, by omega, ?_⟩
      have e1 : dY 2 = 1 := by decide
      have e2 : dX 2 = 0 := by decide
      rw [e1, e2, Int.add_zero]
      exact ⟨by omega, by omega, hx.1, hx.2, h2⟩
  · rintro ⟨d, d0, d1, d2, d3, d4, d5, d6⟩
    rcases dYX d ⟨d0, d1⟩ with ⟨e1, e2, -⟩ | ⟨e1, e2, -⟩ | ⟨e1, e2, -⟩ | ⟨e1, e2, -⟩
    · rw [e1, e2, Int.add_zero, ← Int.sub_eq_add_neg] at d6
      exact Or.inr (Or.inr (Or.inl ⟨by omega, d6⟩))
    · rw [e1, e2, Int.add_zero] at d6
      exact Or.inr (Or.inl ⟨by omega, d6⟩)
    · rw [e1, e2, Int.add_zero] at d6
      exact Or.inr (Or.inr (Or.inr ⟨by omega, d6⟩))
    · rw [e1, e2, Int.add_zero, ← Int.sub_eq_add_neg] at d6
      exact Or.inl ⟨by omega, d6⟩
/-- what lies beside a line's set -/
def bsd (f : Int → Int) (ln y : Int) : Int := zlor (zlor (zlor (zlshl (f y) 1) (zlushr (f y) 1)) (if 0 < y then f (y - 1) else 0)) (if y + 1 < ln then f (y + 1) else 0)
theorem bsd_bt {f : Int → Int} {ln wd : Int} {X : Int → Prop} (h : SI f ln wd X) (hw : 1 ≤ wd ∧ wd ≤ 16) {y : Int} (hy : 0 ≤ y ∧ y < ln) {st x : Nat} (hs : st < 3) (hx : (x : Int) < wd) : bt (bsd f ln y) (20 * st + x) = true ↔ nb4 ln wd y x (fun c => X (3 * c + st)) := by
  unfold bsd nb4
  rw [bt_or, bt_or, bt_or, bt_shl _ _ (by omega), bt_ushr, Bool.or_eq_true, Bool.or_eq_true, Bool.or_eq_true, Bool.and_eq_true, decide_eq_true_iff, Nat.add_assoc, h y st (x + 1) hy.1 hy.2 (by omega) (by omega)]
  have i1 : (1 ≤ 20 * st + x ∧ bt (f y) (20 * st + x - 1) = true) ↔ (1 ≤ (x : Int) ∧ X (3 * (y * wd + (x - 1)) + st)) := by
    by_cases q : 1 ≤ x
    · have e : 20 * st + x - 1 = 20 * st + (x - 1) := by omega
      rw [e, h y st (x - 1) hy.1 hy.2 (by omega) (by omega), Int.ofNat_sub q]
      exact ⟨fun z => ⟨by omega, z.2.2.2⟩, fun z => ⟨by omega, hs, by omega, z.2⟩⟩
    · refine ⟨fun z => ?_, fun z => absurd z.1 (by omega)⟩
      exfalso
      have e : 20 * st + x - 1 = 20 * (st - 1) + 19 := by omega
      have z2 := z.2
      rw [e, h y (st - 1) 19 hy.1 hy.2 (by omega) (by omega)] at z2
      have := z2.2.1
      omega
  have i3 : bt (if 0 < y then f (y - 1) else 0) (20 * st + x) = true ↔ (0 < y ∧ X (3 * ((y - 1) * wd + x) + st)) := by
    by_cases q : 0 < y
    · rw [if_pos q, h (y - 1) st x (by omega) (by omega) (by omega) (by omega)]
      exact ⟨fun z => ⟨q, z.2.2⟩, fun z => ⟨hs, hx, z.2⟩⟩
    · rw [if_neg q, bt_0]
      exact ⟨fun z => (by cases z), fun z => absurd z.1 q⟩
  have i4 : bt (if y + 1 < ln then f (y + 1) else 0) (20 * st + x) = true ↔ (y + 1 < ln ∧ X (3 * ((y + 1) * wd + x) + st)) := by
    by_cases q : y + 1 < ln
    · rw [if_pos q, h (y + 1) st x (by omega) (by omega) (by omega) (by omega)]
      exact ⟨fun z => ⟨q, z.2.2⟩, fun z => ⟨hs, hx, z.2⟩⟩
    · rw [if_neg q, bt_0]
      exact ⟨fun z => (by cases z), fun z => absurd z.1 q⟩
  rw [i1, i3, i4]
  have e : ((x + 1 : Nat) : Int) = (x : Int) + 1 := by omega
  rw [e]
  constructor
  · rintro (((z | z) | z) | z)
    · exact Or.inl z
    · exact Or.inr (Or.inl z.2)
    · exact Or.inr (Or.inr (Or.inl z))
    · exact Or.inr (Or.inr (Or.inr z))
  · rintro (z | z | z | z)
    · exact Or.inl (Or.inl (Or.inl z))
    · exact Or.inl (Or.inl (Or.inr ⟨hs, z⟩))
    · exact Or.inl (Or.inr z)
    · exact Or.inr z
def R0l (y : zM) (vs : List zV) (hi : zI) (hr : zR) (x : Int) : Prop := ∀ P : Int → Prop, P x → W0l y vs hi hr P
theorem beside_run {hi : zI} {hr : zR} (hR : RSc hr) {ln l y : Int} (e8 : hi 19 0 8 = ln) (hln : ln ≤ 16) (hl : 0 ≤ l ∧ l ≤ 4800) (hy : 0 ≤ y ∧ y < ln) : R0l mX4_beside [.inr (some (19, 0)), .inl l, .inl y] hi hr (bsd (fun i => hi 20 0 (l + i)) ln y) := by
  intro P hP
  unfold bsd at hP
  dsimp only at hP
  have ea : l + (y - 1) = l + y - 1 := by omega
  have eb : l + (y + 1) = l + y + 1 := by omega
  rw [ea, eb] at hP
  refine GX4_beside hR l y ⟨⟨by omega, by omega⟩, by omega, fun q => ⟨⟨by omega, by omega⟩, fun q' => ?_, fun q' => ⟨⟨by omega, by omega⟩, ⟨by omega, by omega⟩, by omega, ?_⟩⟩, fun q => ⟨⟨by omega, by omega⟩, ⟨by omega, by omega⟩, by omega, ⟨by omega, by omega⟩, fun q' => ?_, fun q' => ⟨⟨by omega, by omega⟩, ⟨by omega, by omega⟩, by omega, ?_⟩⟩⟩
  · rw [if_neg (by omega), if_neg (by omega)] at hP; exact hP
  · rw [if_neg (by omega), if_pos (by omega)] at hP; exact hP
  · rw [if_pos (by omega), if_neg (by omega)] at hP; exact hP
  · rw [if_pos (by omega), if_pos (by omega)] at hP; exact hP
/-- a bit that isn't there -/
theorem SI.no {f : Int → Int} {ln wd : Int} {X : Int → Prop} (h : SI f ln wd X) {y : Int} (hy : 0 ≤ y ∧ y < ln) {st x : Nat} (hs : st < 3) (hx : (x : Int) < wd) (hw : wd ≤ 16) : bt (f y) (20 * st + x) = false ↔ ¬ X (3 * (y * wd + x) + st) := by
  have := h y st x hy.1 hy.2 (by omega) (by omega)
  cases z : bt (f y) (20 * st + x) with
  | false => exact ⟨fun _ q => (by rw [this.mpr ⟨hs, hx, q⟩] at z; cases z), fun _ => rfl⟩
  | true => exact ⟨fun q => (by cases q), fun q => absurd (this.mp z).2.2 q⟩
section ZP
variable {jm ln wd vn v a b t0 : Int} {k pk tr tb te : Int → Int} {r : zR}
theorem drop_line {j l : Int} (R : RSc r) (hln : ln ≤ 16) (hl : 0 ≤ l ∧ l ≤ 300) (hj : 0 ≤ j ∧ j < 2) (rj : r 19 0 4 = some (23, j)) : ∀ (n : Nat) (a4 : Int) (hi : zI), hi 19 0 8 = ln → a4 + n = ln → 0 ≤ a4 →
    ∃ hi', (∀ q, q ≠ 20 → hi' q = hi q) ∧ (∀ i, hi' 20 0 i = if l * 16 + a4 ≤ i ∧ i < l * 16 + ln then zland (hi 20 0 i) (zlxor (hi 23 j (i - l * 16)) (-1)) else hi 20 0 i) ∧
      ∀ P : zI → Prop, P hi' → WP mX4_dropEntered 7 [some (.inr (some (19, 0))), some (.inl l), some (.inl (l * 16)), some (.inl a4)] [] hi r (zQ1v r P) := by
  intro n
  induction n with
  | zero =>
    intro a4 hi e8 hn h0
    refine ⟨hi, fun _ _ => rfl, fun i => ?_, fun P hP => GX4_dropEntered_7 R l _ a4 ⟨fun _ => hP, fun q => absurd q (by omega)⟩⟩
    rw [if_neg (by omega)]
  | succ n ih =>
    intro a4 hi e8 hn h0
    obtain ⟨hi', e1, e2, e3⟩ := ih (a4 + 1) (zup hi 20 0 (l * 16 + a4) (zland (hi 20 0 (l * 16 + a4)) (zlxor (hi 23 j a4) (-1)))) e8 (by omega) (by omega)
    refine ⟨hi', fun q hq => (e1 q hq).trans (zup_kf _ _ _ _ hq), fun i => ?_, fun P hP => GX4_dropEntered_7 R l _ a4 ⟨fun q => absurd q (by omega), fun _ => ⟨⟨by omega, by omega⟩, by omega, j, rj, hj, by omega, by omega, ⟨by omega, by omega⟩, e3 P hP⟩⟩⟩
    rw [e2 i]
    show (if _ then zland (zup hi 20 0 (l * 16 + a4) (zland (hi 20 0 (l * 16 + a4)) (zlxor (hi 23 j a4) (-1))) 20 0 i) (zlxor (hi 23 j (i - l * 16)) (-1)) else zup hi 20 0 (l * 16 + a4) (zland (hi 20 0 (l * 16 + a4)) (zlxor (hi 23 j a4) (-1))) 20 0 i) = _
    rw [zup_at]
    by_cases q : i = l * 16 + a4
    · rw [if_neg (by omega), if_pos q, if_pos (by omega), q, zacl]
    · rw [if_neg q]
      by_cases q' : l * 16 + a4 ≤ i ∧ i < l * 16 + ln
      · rw [if_pos (by omega), if_pos q']
      · rw [if_neg (by omega), if_neg q']
theorem dropEntered_run {hi : zI} {j n : Int} (R : RSc r) (hln : 1 ≤ ln ∧ ln ≤ 16) (hw : wd ≤ 16) (hn : 0 ≤ n ∧ n ≤ 300) (hj : 0 ≤ j ∧ j < 2) (rj : r 19 0 4 = some (23, j)) (e8 : hi 19 0 8 = ln) {X H : Int → Prop} (hX : LyI hi ln wd n X) (hH : SI (hi 23 j) ln wd (fun p => H (p / 3))) :
    ∃ hi', (∀ q, q ≠ 20 → hi' q = hi q) ∧ (∀ i, (i < n * 16 ∨ n * 16 + 16 ≤ i) → hi' 20 0 i = hi 20 0 i) ∧ LyI hi' ln wd n (fun p => X p ∧ ¬ H (p / 3)) ∧ R1v mX4_dropEntered [.inr (some (19, 0)), .inl n] hi r hi' := by
  obtain ⟨h1, a1, a2, a3⟩ := drop_line (l := n) R hln.2 hn hj rj ln.toNat 0 hi e8 (by omega) (by omega)
  refine ⟨h1, a1, fun i hi => ?_, fun y st x y0 y1 s1 x1 => ?_, fun P hP => GX4_dropEntered n ⟨⟨by omega, by omega⟩, a3 P hP⟩⟩
  · rw [a2, if_neg (by omega)]
  · dsimp only
    have hx := hX y st x y0 y1 s1 x1
    dsimp only at hx
    rw [a2, if_pos (by omega), zacl, bt_and, Bool.and_eq_true, hx]
    constructor
    · rintro ⟨⟨z1, z2, z3⟩, z4⟩
      rw [bt_not _ _ (by omega), Bool.not_eq_true', hH.no ⟨y0, y1⟩ z1 z2 hw] at z4
      exact ⟨z1, z2, z3, z4⟩
    · rintro ⟨z1, z2, z3, z4⟩
      rw [bt_not _ _ (by omega), Bool.not_eq_true', hH.no ⟨y0, y1⟩ z1 z2 hw]
      exact ⟨⟨z1, z2, z3⟩, z4⟩
end ZP
