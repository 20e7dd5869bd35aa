theorem zacl (a b : Int) : a + b - a = b := by omega
/-- the four cells beside one -/
def nb4 (ln wd y x : Int) (X : Int → Prop) : Prop := (1 ≤ x ∧ X (y * wd + (x - 1))) ∨ (x + 1 < wd ∧ X (y * wd + (x + 1))) ∨ (0 < y ∧ X ((y - 1) * wd + x)) ∨ (y + 1 < ln ∧ X ((y + 1) * wd + x))
theorem nb4_minus {ln wd y x : Int} {X : Int → Prop} (hy : 0 ≤ y ∧ y < ln) (hx : 0 ≤ x ∧ x < wd) : nb4 ln wd y x X ↔ ∃ d, 0 ≤ d ∧ d < 4 ∧ 0 ≤ y - dY d ∧ y - dY d < ln ∧ 0 ≤ x - dX d ∧ x - dX d < wd ∧ X ((y - dY d) * wd + (x - dX d)) := by
  constructor
  · rintro (⟨h1, h2⟩ | ⟨h1, h2⟩ | ⟨h1, h2⟩ | ⟨h1, h2⟩)
    · refine ⟨1, by omega, by omega, ?_⟩
      have e1 : dY 1 = 0 := by decide
      have e2 : dX 1 = 1 := by decide
      rw [e1, e2, Int.sub_zero]
      exact ⟨hy.1, hy.2, by omega, by omega, h2⟩
    · refine ⟨3, by omega, by omega, ?_⟩
      have e1 : dY 3 = 0 := by decide
      have e2 : dX 3 = -1 := by decide
      rw [e1, e2, Int.sub_zero, Int.sub_neg]
      exact ⟨hy.1, hy.2, by omega, by omega, h2⟩
    · refine ⟨2, by omega, by omega, ?_⟩
      have e1 : dY 2 = 1 := by decide
      have e2 : dX 2 = 0 := by decide
      rw [e1, e2, Int.sub_zero]
      exact ⟨by omega, by omega, hx.1, hx.2, h2⟩
    · refine ⟨0, by omega, by omega, ?_⟩
      have e1 : dY 0 = -1 := by decide
      have e2 : dX 0 = 0 := by decide
      rw [e1, e2, Int.sub_zero, Int.sub_neg]
      exact ⟨by omega, by omega, hx.1, hx.2, h2⟩
  · rintro ⟨d, d0, d1, d2, d3, d4, d5, d6⟩
    rcases dYX d ⟨d0, d1⟩ with ⟨e1, e2, -⟩ | ⟨e1, e2, -⟩ | ⟨e1, e2, -⟩ | ⟨e1, e2, -⟩
    · rw [e1, e2, Int.sub_zero, Int.sub_neg] at d6
      exact Or.inr (Or.inr (Or.inr ⟨by omega, d6⟩))
    · rw [e1, e2, Int.sub_zero] at d6
      exact Or.inl ⟨by omega, d6⟩
    · rw [e1, e2, Int.sub_zero] at d6
      exact Or.inr (Or.inr (Or.inl ⟨by omega, d6⟩))
    · rw [e1, e2, Int.sub_zero, Int.sub_neg] at d6
      exact Or.inr (Or.inl ⟨by omega, d6⟩)
theorem nb4_plus {ln wd y x : Int} {X : Int → Prop} (hy : 0 ≤ y ∧ y < ln) (hx : 0 ≤ x ∧ x < wd) : nb4 ln wd y x X ↔ ∃ d, 0 ≤ d ∧ d < 4 ∧ 0 ≤ y + dY d ∧ y + dY d < ln ∧ 0 ≤ x + dX d ∧ x + dX d < wd ∧ X ((y + dY d) * wd + (x + dX d)) := by
  constructor
  · rintro (⟨h1, h2⟩ | ⟨h1, h2⟩ | ⟨h1, h2⟩ | ⟨h1, h2⟩)
    · refine ⟨3, by omega, by omega, ?_⟩
      have e1 : dY 3 = 0 := by decide
      have e2 : dX 3 = -1 := by decide
      rw [e1, e2, Int.add_zero, ← Int.sub_eq_add_neg]
      exact ⟨hy.1, hy.2, by omega, by omega, h2⟩
    · refine ⟨1, by omega, by omega, ?_⟩
      have e1 : dY 1 = 0 := by decide
      have e2 : dX 1 = 1 := by decide
      rw [e1, e2, Int.add_zero]
      exact ⟨hy.1, hy.2, by omega, by omega, h2⟩
    · refine ⟨0, by omega, by omega, ?_⟩
      have e1 : dY 0 = -1 := by decide
      have e2 : dX 0 = 0 := by decide
      rw [e1, e2, Int.add_zero, ← Int.sub_eq_add_neg]
      exact ⟨by omega, by omega, hx.1, hx.2, h2⟩
    · refine ⟨2, by omega, by omega, ?_⟩
      have e1 : dY 2 = 1 := by decide
      have e2 : dX 2 = 0 := by decide
      rw [e1, e2, Int.add_zero]
      exact ⟨by omega, by omega, hx.1, hx.2, h2⟩
  · rintro ⟨d, d0, d1, d2, d3, d4, d5, d6⟩
    rcases dYX d ⟨d0, d1⟩ with ⟨e1, e2, -⟩ | ⟨e1, e2, -⟩ | ⟨e1, e2, -⟩ | ⟨e1, e2, -⟩
    · rw [e1, e2, Int.add_zero, ← Int.sub_eq_add_neg] at d6
      exact Or.inr (Or.inr (Or.inl ⟨by omega, d6⟩))
    · rw [e1, e2, Int.add_zero] at d6
      exact Or.inr (Or.inl ⟨by omega, d6⟩)
    · rw [e1, e2, Int.add_zero] at d6
      exact Or.inr (Or.inr (Or.inr ⟨by omega, d6⟩))
    · rw [e1, e2, Int.add_zero, ← Int.sub_eq_add_neg] at d6
      exact Or.inl ⟨by omega, d6⟩
/-- what lies beside a line's set -/
def bsd (f : Int → Int) (ln y : Int) : Int := zor (zor (zor (zshl (f y) 1) (zushr (f y) 1)) (if 0 < y then f (y - 1) else 0)) (if y + 1 < ln then f (y + 1) else 0)
theorem bsd_bt {f : Int → Int} {ln wd : Int} {X : Int → Prop} (h : SI f ln wd X) (hw : 1 ≤ wd ∧ wd ≤ 16) {y : Int} (hy : 0 ≤ y ∧ y < ln) {x : Nat} (hx : (x : Int) < wd) : bt (bsd f ln y) x = true ↔ nb4 ln wd y x X := by
  unfold bsd nb4
  rw [bt_or, bt_or, bt_or, bt_shl _ _ (by omega), bt_ushr, Bool.or_eq_true, Bool.or_eq_true, Bool.or_eq_true, Bool.and_eq_true, decide_eq_true_iff, h y (x + 1) hy.1 hy.2 (by omega)]
  have i1 : (1 ≤ x ∧ bt (f y) (x - 1) = true) ↔ (1 ≤ (x : Int) ∧ X (y * wd + (x - 1))) := by
    constructor
    · rintro ⟨z1, z2⟩
      have := ((h y (x - 1) hy.1 hy.2 (by omega)).mp z2).2
      rw [Int.ofNat_sub z1] at this
      exact ⟨by omega, this⟩
    · rintro ⟨z1, z2⟩
      refine ⟨by omega, (h y (x - 1) hy.1 hy.2 (by omega)).mpr ⟨by omega, ?_⟩⟩
      rw [Int.ofNat_sub (by omega)]
      exact z2
  have i3 : bt (if 0 < y then f (y - 1) else 0) x = true ↔ (0 < y ∧ X ((y - 1) * wd + x)) := by
    by_cases q : 0 < y
    · rw [if_pos q, h (y - 1) x (by omega) (by omega) (by omega)]
      exact ⟨fun z => ⟨q, z.2⟩, fun z => ⟨hx, z.2⟩⟩
    · rw [if_neg q, bt_0]
      exact ⟨fun z => (by cases z), fun z => absurd z.1 q⟩
  have i4 : bt (if y + 1 < ln then f (y + 1) else 0) x = true ↔ (y + 1 < ln ∧ X ((y + 1) * wd + x)) := by
    by_cases q : y + 1 < ln
    · rw [if_pos q, h (y + 1) x (by omega) (by omega) (by omega)]
      exact ⟨fun z => ⟨q, z.2⟩, fun z => ⟨hx, z.2⟩⟩
    · rw [if_neg q, bt_0]
      exact ⟨fun z => (by cases z), fun z => absurd z.1 q⟩
  rw [i1, i3, i4]
  have e : ((x + 1 : Nat) : Int) = (x : Int) + 1 := by omega
  rw [e]
  constructor
  · rintro (((z | z) | z) | z)
    · exact Or.inl z
    · exact Or.inr (Or.inl z)
    · exact Or.inr (Or.inr (Or.inl z))
    · exact Or.inr (Or.inr (Or.inr z))
  · rintro (z | z | z | z)
    · exact Or.inl (Or.inl (Or.inl z))
    · exact Or.inl (Or.inl (Or.inr z))
    · exact Or.inl (Or.inr z)
    · exact Or.inr z
theorem beside_run {hi : zI} {hr : zR} (hR : RSc hr) {ln l y : Int} (e8 : hi 19 0 8 = ln) (hln : ln ≤ 16) (hl : 0 ≤ l ∧ l ≤ 14432) (hy : 0 ≤ y ∧ y < ln) : R0i mX4_beside [.inr (some (19, 0)), .inl l, .inl y] hi hr (bsd (fun i => hi 20 0 (l + i)) ln y) := by
  intro P hP
  unfold bsd at hP
  dsimp only at hP
  have ea : l + (y - 1) = l + y - 1 := by omega
  have eb : l + (y + 1) = l + y + 1 := by omega
  rw [ea, eb] at hP
  refine GX4_beside hR l y ⟨⟨by omega, by omega⟩, by omega, fun q => ⟨⟨by omega, by omega⟩, fun q' => ?_, fun q' => ⟨⟨by omega, by omega⟩, ⟨by omega, by omega⟩, by omega, ?_⟩⟩, fun q => ⟨⟨by omega, by omega⟩, ⟨by omega, by omega⟩, by omega, ⟨by omega, by omega⟩, fun q' => ?_, fun q' => ⟨⟨by omega, by omega⟩, ⟨by omega, by omega⟩, by omega, ?_⟩⟩⟩
  · rw [if_neg (by omega), if_neg (by omega)] at hP; exact hP
  · rw [if_neg (by omega), if_pos (by omega)] at hP; exact hP
  · rw [if_pos (by omega), if_neg (by omega)] at hP; exact hP
  · rw [if_pos (by omega), if_pos (by omega)] at hP; exact hP
section ZP
variable {jm ln wd vn v a b t0 : Int} {k pk tr tb te : Int → Int} {r : zR}
theorem drop_line {j l st : Int} (R : RSc r) (hln : ln ≤ 16) (hl : 0 ≤ l ∧ l ≤ 300) (hs : 0 ≤ st ∧ st < 3) (hj : 0 ≤ j ∧ j < 2) (rj : r 19 0 4 = some (23, j)) : ∀ (n : Nat) (a4 : Int) (hi : zI), hi 19 0 8 = ln → a4 + n = ln → 0 ≤ a4 →
    ∃ hi', (∀ q, q ≠ 20 → hi' q = hi q) ∧ (∀ i, hi' 20 0 i = if l * 48 + st * 16 + a4 ≤ i ∧ i < l * 48 + st * 16 + ln then zand (hi 20 0 i) (zxor (hi 23 j (i - (l * 48 + st * 16))) (-1)) else hi 20 0 i) ∧
      ∀ P : zI → Prop, (∀ u3 u4, WP mX4_dropEntered 2 [some (.inr (some (19, 0))), some (.inl l), some (.inl (st + 1)), u3, u4] [] hi' r (zQ1v r P)) → WP mX4_dropEntered 16 [some (.inr (some (19, 0))), some (.inl l), some (.inl st), some (.inl (l * 48 + st * 16)), some (.inl a4)] [] hi r (zQ1v r P) := by
  intro n
  induction n with
  | zero =>
    intro a4 hi e8 hn h0
    refine ⟨hi, fun _ _ => rfl, fun i => ?_, fun P hP => GX4_dropEntered_16 R l st _ a4 ⟨fun _ => ⟨⟨by omega, by omega⟩, hP _ _⟩, fun q => absurd q (by omega)⟩⟩
    rw [if_neg (by omega)]
  | succ n ih =>
    intro a4 hi e8 hn h0
    obtain ⟨hi', e1, e2, e3⟩ := ih (a4 + 1) (zup hi 20 0 (l * 48 + st * 16 + a4) (zand (hi 20 0 (l * 48 + st * 16 + a4)) (zxor (hi 23 j a4) (-1)))) e8 (by omega) (by omega)
    refine ⟨hi', fun q hq => (e1 q hq).trans (zup_kf _ _ _ _ hq), fun i => ?_, fun P hP => GX4_dropEntered_16 R l st _ a4 ⟨fun q => absurd q (by omega), fun _ => ⟨⟨by omega, by omega⟩, by omega, j, rj, hj, by omega, by omega, ⟨by omega, by omega⟩, e3 P hP⟩⟩⟩
    rw [e2 i]
    show (if _ then zand (zup hi 20 0 (l * 48 + st * 16 + a4) (zand (hi 20 0 (l * 48 + st * 16 + a4)) (zxor (hi 23 j a4) (-1))) 20 0 i) (zxor (hi 23 j (i - (l * 48 + st * 16))) (-1)) else zup hi 20 0 (l * 48 + st * 16 + a4) (zand (hi 20 0 (l * 48 + st * 16 + a4)) (zxor (hi 23 j a4) (-1))) 20 0 i) = _
    rw [zup_at]
    by_cases q : i = l * 48 + st * 16 + a4
    · rw [if_neg (by omega), if_pos q, if_pos (by omega), q, zacl]
    · rw [if_neg q]
      by_cases q' : l * 48 + st * 16 + a4 ≤ i ∧ i < l * 48 + st * 16 + ln
      · rw [if_pos (by omega), if_pos q']
      · rw [if_neg (by omega), if_neg q']
theorem dropEntered_run {hi : zI} {j n : Int} (R : RSc r) (hln : 1 ≤ ln ∧ ln ≤ 16) (hn : 0 ≤ n ∧ n ≤ 300) (hj : 0 ≤ j ∧ j < 2) (rj : r 19 0 4 = some (23, j)) (e8 : hi 19 0 8 = ln) {X H : Int → Prop} (hX : LyI hi ln wd n X) (hH : SI (hi 23 j) ln wd H) :
    ∃ hi', (∀ q, q ≠ 20 → hi' q = hi q) ∧ (∀ i, (i < n * 48 ∨ n * 48 + 48 ≤ i) → hi' 20 0 i = hi 20 0 i) ∧ LyI hi' ln wd n (fun p => X p ∧ ¬ H (p / 3)) ∧ R1v mX4_dropEntered [.inr (some (19, 0)), .inl n] hi r hi' := by
  obtain ⟨h1, a1, a2, a3⟩ := drop_line (l := n) (st := 0) R hln.2 hn (by omega) hj rj ln.toNat 0 hi e8 (by omega) (by omega)
  obtain ⟨h2, b1, b2, b3⟩ := drop_line (l := n) (st := 1) R hln.2 hn (by omega) hj rj ln.toNat 0 h1 (by rw [a1 19 (by decide)]; exact e8) (by omega) (by omega)
  obtain ⟨h3, c1, c2, c3⟩ := drop_line (l := n) (st := 2) R hln.2 hn (by omega) hj rj ln.toNat 0 h2 (by rw [b1 19 (by decide), a1 19 (by decide)]; exact e8) (by omega) (by omega)
  have d1 : ∀ i, h1 23 j i = hi 23 j i := fun i => by rw [a1 23 (by decide)]
  have d2 : ∀ i, h2 23 j i = hi 23 j i := fun i => by rw [b1 23 (by decide), a1 23 (by decide)]
  have val : ∀ st, 0 ≤ st → st < 3 → ∀ y, 0 ≤ y → y < ln → h3 20 0 (n * 48 + st * 16 + y) = zand (hi 20 0 (n * 48 + st * 16 + y)) (zxor (hi 23 j y) (-1)) := by
    intro st s0 s1 y y0 y1
    have : st = 0 ∨ st = 1 ∨ st = 2 := by omega
    rcases this with rfl | rfl | rfl
    · rw [c2, if_neg (by omega), b2, if_neg (by omega), a2, if_pos (by omega), zacl]
    · rw [c2, if_neg (by omega), b2, if_pos (by omega), a2, if_neg (by omega), zacl, d1]
    · rw [c2, if_pos (by omega), b2, if_neg (by omega), a2, if_neg (by omega), zacl, d2]
  refine ⟨h3, fun q hq => (c1 q hq).trans ((b1 q hq).trans (a1 q hq)), fun i hi => ?_, fun st s0 s1 y x y0 y1 x1 => ?_, fun P hP => ?_⟩
  · rw [c2, if_neg (by omega), b2, if_neg (by omega), a2, if_neg (by omega)]
  · dsimp only
    rw [val st s0 s1 y y0 y1, bt_and, bt_not _ _ x1, Bool.and_eq_true, Bool.not_eq_true', hX st s0 s1 y x y0 y1 x1]
    have hb := hH y x y0 y1 x1
    have e : ∀ c : Int, (3 * c + st) / 3 = c := fun c => by omega
    rw [e]
    constructor
    · rintro ⟨z1, z2⟩
      refine ⟨z1.1, z1.2, fun z => ?_⟩
      rw [hb.mpr ⟨z1.1, z⟩] at z2
      cases z2
    · rintro ⟨z1, z2, z3⟩
      refine ⟨⟨z1, z2⟩, ?_⟩
      cases z : bt (hi 23 j y) x with
      | false => rfl
      | true => exact absurd (hb.mp z).2 z3
  · refine GX4_dropEntered n (GX4_dropEntered_2 n 0 _ _ ⟨fun q => absurd q (by omega), fun _ => rowOf_run (by omega) (by omega) _ (a3 P (fun u3 u4 => ?_))⟩)
    refine GX4_dropEntered_2 n (0 + 1) _ _ ⟨fun q => absurd q (by omega), fun _ => rowOf_run (by omega) (by omega) _ (b3 P (fun u3 u4 => ?_))⟩
    refine GX4_dropEntered_2 n (1 + 1) _ _ ⟨fun q => absurd q (by omega), fun _ => rowOf_run (by omega) (by omega) _ (c3 P (fun u3 u4 => ?_))⟩
    exact GX4_dropEntered_2 n (2 + 1) _ _ ⟨fun _ => hP, fun q => absurd q (by omega)⟩
end ZP
