/-- a set of cells in three stages, a number a line: bit 20 * stage + column -/
def SI (f : Int → Int) (ln wd : Int) (X : Int → Prop) : Prop := ∀ (y : Int) (st x : Nat), 0 ≤ y → y < ln → st < 4 → x < 20 → (bt (f y) (20 * st + x) = true ↔ st < 3 ∧ (x : Int) < wd ∧ X (3 * (y * wd + x) + st))
theorem SI.empty {f : Int → Int} {ln wd : Int} (h : ∀ y, 0 ≤ y → y < ln → f y = 0) : SI f ln wd (fun _ => False) := by
  intro y st x a b _ _
  rw [h y a b, bt_0]
  exact ⟨fun q => (by cases q), fun q => q.2.2.elim⟩
theorem SI.cong {f f' : Int → Int} {ln wd : Int} {X X' : Int → Prop} (h : SI f ln wd X) (e : ∀ y, 0 ≤ y → y < ln → f' y = f y) (e' : ∀ y x st, 0 ≤ y → y < ln → 0 ≤ x → x < wd → 0 ≤ st → st < 3 → (X' (3 * (y * wd + x) + st) ↔ X (3 * (y * wd + x) + st))) : SI f' ln wd X' := by
  intro y st x a b d d'
  rw [e y a b, h y st x a b d d']
  exact ⟨fun q => ⟨q.1, q.2.1, (e' y x st a b (by omega) q.2.1 (by omega) (by omega)).mpr q.2.2⟩, fun q => ⟨q.1, q.2.1, (e' y x st a b (by omega) q.2.1 (by omega) (by omega)).mp q.2.2⟩⟩
theorem SI.mark {f f' : Int → Int} {ln wd : Int} {X : Int → Prop} {c s : Int} (h : SI f ln wd X) (hw : 1 ≤ wd ∧ wd ≤ 16) (hs : 0 ≤ s ∧ s < 3) (e : ∀ y, 0 ≤ y → y < ln → f' y = if y = c / wd then zlor (f y) (zlshl 1 (s * 20 + c % wd)) else f y) : SI f' ln wd (fun p => X p ∨ p = 3 * c + s) := by
  intro y st x a b d d'
  have m0 := Int.emod_nonneg c (show wd ≠ 0 by omega)
  have m1 := Int.emod_lt_of_pos c (show 0 < wd by omega)
  have ec : c = (c / wd) * wd + c % wd := by rw [Int.mul_comm]; exact (Int.mul_ediv_add_emod c wd).symm
  rw [e y a b]
  by_cases q : y = c / wd
  · rw [if_pos q, bt_or, bt_mark (by omega) (by omega), Bool.or_eq_true, h y st x a b d d', decide_eq_true_iff]
    constructor
    · rintro (z | z)
      · exact ⟨z.1, z.2.1, Or.inl z.2.2⟩
      · have t : (st : Int) = s ∧ (x : Int) = c % wd := by omega
        refine ⟨by omega, by omega, Or.inr ?_⟩
        rw [q, t.1, t.2, ← ec]
    · rintro ⟨z0, z1, z | z⟩
      · exact Or.inl ⟨z0, z1, z⟩
      · refine Or.inr ?_
        have t : y * wd + x = c ∧ (st : Int) = s := by omega
        have t1 := t.1
        rw [ec] at t1
        have := (gc_inj (by omega) z1 m0 m1 t1).2
        omega
  · rw [if_neg q, h y st x a b d d']
    constructor
    · exact fun z => ⟨z.1, z.2.1, Or.inl z.2.2⟩
    · rintro ⟨z0, z1, z | z⟩
      · exact ⟨z0, z1, z⟩
      · refine absurd ?_ q
        have t1 : y * wd + x = c := by omega
        rw [ec] at t1
        exact (gc_inj (by omega) z1 m0 m1 t1).1
theorem SI.mark3 {f f1 f2 f3 : Int → Int} {ln wd : Int} {X : Int → Prop} {c : Int} (h : SI f ln wd X) (hw : 1 ≤ wd ∧ wd ≤ 16) (e1 : ∀ y, 0 ≤ y → y < ln → f1 y = if y = c / wd then zlor (f y) (zlshl 1 (0 * 20 + c % wd)) else f y) (e2 : ∀ y, 0 ≤ y → y < ln → f2 y = if y = c / wd then zlor (f1 y) (zlshl 1 ((0 + 1) * 20 + c % wd)) else f1 y) (e3 : ∀ y, 0 ≤ y → y < ln → f3 y = if y = c / wd then zlor (f2 y) (zlshl 1 ((0 + 1 + 1) * 20 + c % wd)) else f2 y) : SI f3 ln wd (fun p => X p ∨ p / 3 = c) := by
  refine (((h.mark hw (by omega) e1).mark hw (by omega) e2).mark hw (by omega) e3).cong (fun _ _ _ => rfl) (fun y x st _ _ _ _ s0 s1 => ?_)
  constructor
  · rintro (z | z)
    · exact Or.inl (Or.inl (Or.inl z))
    · have : st = 0 ∨ st = 1 ∨ st = 2 := by omega
      rcases this with q | q | q
      · exact Or.inl (Or.inl (Or.inr (by omega)))
      · exact Or.inl (Or.inr (by omega))
      · exact Or.inr (by omega)
  · rintro (((z | z) | z) | z)
    · exact Or.inl z
    · exact Or.inr (by omega)
    · exact Or.inr (by omega)
    · exact Or.inr (by omega)
theorem div_bd {c ln wd : Int} (hw : 1 ≤ wd) (hl : ln ≤ 16) (hc : 0 ≤ c ∧ c < ln * wd) : 0 ≤ c / wd ∧ c / wd < ln ∧ c / wd < 16 := by
  have a := Int.ediv_nonneg hc.1 (show 0 ≤ wd by omega)
  have b : c / wd < ln := Int.ediv_lt_of_lt_mul (by omega) hc.2
  omega
section ZK
variable {hi : zI} {hr : zR} {ln wd : Int}
theorem mark_Open (ew : hi 19 0 7 = wd) (hw : 1 ≤ wd ∧ wd ≤ 16) (hl : ln ≤ 16) {c s : Int} (hs : 0 ≤ s ∧ s < 3) (hc : 0 ≤ c ∧ c < ln * wd) : R1v mX4_mark [.inr (some (19, 0)), .inr (some (21, 0)), .inl 0, .inl s, .inl c] hi hr (zup hi 21 0 (0 * 16 + c / wd) (zlor (hi 21 0 (0 * 16 + c / wd)) (zlshl 1 (s * 20 + c % wd)))) := by
  intro P hP
  have d := div_bd hw.1 hl hc
  have m0 := Int.emod_nonneg c (show wd ≠ 0 by omega)
  have m1 := Int.emod_lt_of_pos c (show 0 < wd by omega)
  subst ew
  exact GX4_mark_Open 0 s c ⟨fun q => absurd q (by omega), fun _ => ⟨fun _ => ⟨⟨by omega, by omega⟩, ⟨hc.1, by omega⟩, ⟨by omega, by omega⟩, fun q => absurd q (by omega), fun _ => ⟨fun q => absurd q (by omega), fun _ => ⟨by omega, ⟨by omega, by omega⟩, ⟨hc.1, by omega⟩, ⟨by omega, by omega⟩, by omega, hP⟩⟩⟩, fun q => absurd q (by omega)⟩⟩
theorem mark_Turns (ew : hi 19 0 7 = wd) (hw : 1 ≤ wd ∧ wd ≤ 16) (hl : ln ≤ 16) {c s : Int} (hs : 0 ≤ s ∧ s < 3) (hc : 0 ≤ c ∧ c < ln * wd) : R1v mX4_mark [.inr (some (19, 0)), .inr (some (22, 0)), .inl 0, .inl s, .inl c] hi hr (zup hi 22 0 (0 * 16 + c / wd) (zlor (hi 22 0 (0 * 16 + c / wd)) (zlshl 1 (s * 20 + c % wd)))) := by
  intro P hP
  have d := div_bd hw.1 hl hc
  have m0 := Int.emod_nonneg c (show wd ≠ 0 by omega)
  have m1 := Int.emod_lt_of_pos c (show 0 < wd by omega)
  subst ew
  exact GX4_mark_Turns 0 s c ⟨fun q => absurd q (by omega), fun _ => ⟨fun _ => ⟨⟨by omega, by omega⟩, ⟨hc.1, by omega⟩, ⟨by omega, by omega⟩, fun q => absurd q (by omega), fun _ => ⟨fun q => absurd q (by omega), fun _ => ⟨by omega, ⟨by omega, by omega⟩, ⟨hc.1, by omega⟩, ⟨by omega, by omega⟩, by omega, hP⟩⟩⟩, fun q => absurd q (by omega)⟩⟩
theorem mark_Reached (ew : hi 19 0 7 = wd) (hw : 1 ≤ wd ∧ wd ≤ 16) (hl : ln ≤ 16) {l2 : Int} (h2 : 0 ≤ l2 ∧ l2 ≤ 300) {c s : Int} (hs : 0 ≤ s ∧ s < 3) (hc : 0 ≤ c ∧ c < ln * wd) : R1v mX4_mark [.inr (some (19, 0)), .inr (some (20, 0)), .inl l2, .inl s, .inl c] hi hr (zup hi 20 0 (l2 * 16 + c / wd) (zlor (hi 20 0 (l2 * 16 + c / wd)) (zlshl 1 (s * 20 + c % wd)))) := by
  intro P hP
  have d := div_bd hw.1 hl hc
  have m0 := Int.emod_nonneg c (show wd ≠ 0 by omega)
  have m1 := Int.emod_lt_of_pos c (show 0 < wd by omega)
  subst ew
  exact GX4_mark_Reached l2 s c ⟨fun q => absurd q (by omega), fun _ => ⟨fun _ => ⟨⟨by omega, by omega⟩, ⟨hc.1, by omega⟩, ⟨by omega, by omega⟩, fun q => absurd q (by omega), fun _ => ⟨fun q => absurd q (by omega), fun _ => ⟨by omega, ⟨by omega, by omega⟩, ⟨hc.1, by omega⟩, ⟨by omega, by omega⟩, by omega, hP⟩⟩⟩, fun q => absurd q (by omega)⟩⟩
theorem mark_Held (ew : hi 19 0 7 = wd) (hw : 1 ≤ wd ∧ wd ≤ 16) (hl : ln ≤ 16) {j : Int} {c s : Int} (hs : 0 ≤ s ∧ s < 3) (hc : 0 ≤ c ∧ c < ln * wd) : R1v mX4_mark [.inr (some (19, 0)), .inr (some (23, j)), .inl 0, .inl s, .inl c] hi hr (zup hi 23 j (0 * 16 + c / wd) (zlor (hi 23 j (0 * 16 + c / wd)) (zlshl 1 (s * 20 + c % wd)))) := by
  intro P hP
  have d := div_bd hw.1 hl hc
  have m0 := Int.emod_nonneg c (show wd ≠ 0 by omega)
  have m1 := Int.emod_lt_of_pos c (show 0 < wd by omega)
  subst ew
  exact GX4_mark_Held j 0 s c ⟨fun q => absurd q (by omega), fun _ => ⟨fun _ => ⟨⟨by omega, by omega⟩, ⟨hc.1, by omega⟩, ⟨by omega, by omega⟩, fun q => absurd q (by omega), fun _ => ⟨fun q => absurd q (by omega), fun _ => ⟨by omega, ⟨by omega, by omega⟩, ⟨hc.1, by omega⟩, ⟨by omega, by omega⟩, by omega, hP⟩⟩⟩, fun q => absurd q (by omega)⟩⟩
theorem markAll_Open (ew : hi 19 0 7 = wd) (hw : 1 ≤ wd ∧ wd ≤ 16) (hl : ln ≤ 16) {c : Int} (hc : 0 ≤ c ∧ c < ln * wd) {X : Int → Prop} (S : SI (hi 21 0) ln wd X) : ∃ hi', (∀ q, q ≠ 21 → hi' q = hi q) ∧ (∀ i, i ≠ 0 → hi' 21 i = hi 21 i) ∧ SI (hi' 21 0) ln wd (fun p => X p ∨ p / 3 = c) ∧ R1v mX4_markAllStages [.inr (some (19, 0)), .inr (some (21, 0)), .inl c] hi hr hi' := by
  obtain ⟨h1, e1⟩ : ∃ h1, h1 = zup hi 21 0 (0 * 16 + c / wd) (zlor (hi 21 0 (0 * 16 + c / wd)) (zlshl 1 (0 * 20 + c % wd))) := ⟨_, rfl⟩
  obtain ⟨h2, e2⟩ : ∃ h2, h2 = zup h1 21 0 (0 * 16 + c / wd) (zlor (h1 21 0 (0 * 16 + c / wd)) (zlshl 1 ((0 + 1) * 20 + c % wd))) := ⟨_, rfl⟩
  obtain ⟨h3, e3⟩ : ∃ h3, h3 = zup h2 21 0 (0 * 16 + c / wd) (zlor (h2 21 0 (0 * 16 + c / wd)) (zlshl 1 ((0 + 1 + 1) * 20 + c % wd))) := ⟨_, rfl⟩
  have at' : ∀ (g g' : zI) (z : Int), g' = zup g 21 0 (0 * 16 + c / wd) (zlor (g 21 0 (0 * 16 + c / wd)) z) → ∀ y, 0 ≤ y → y < ln → g' 21 0 y = if y = c / wd then zlor (g 21 0 y) z else g 21 0 y := by
    intro g g' z e y _ _
    rw [e, zup_at]
    by_cases q : y = c / wd
    · rw [if_pos (by omega), if_pos q, q, show (0 * 16 + c / wd : Int) = c / wd by omega]
    · rw [if_neg (by omega), if_neg q]
  refine ⟨h3, fun q hq => ?_, fun i hi => ?_, S.mark3 hw (at' _ _ _ e1) (at' _ _ _ e2) (at' _ _ _ e3), fun P hP => ?_⟩
  · rw [e3, zup_kf _ _ _ _ hq, e2, zup_kf _ _ _ _ hq, e1, zup_kf _ _ _ _ hq]
  · rw [e3, zup_jf _ _ _ hi, e2, zup_jf _ _ _ hi, e1, zup_jf _ _ _ hi]
  · have w1 : h1 19 0 7 = wd := by rw [e1, zup_kf _ _ _ _ (by decide)]; exact ew
    have w2 : h2 19 0 7 = wd := by rw [e2, zup_kf _ _ _ _ (by decide)]; exact w1
    refine GX4_markAllStages_Open c (GX4_markAllStages_Open_2 c 0 ⟨fun q => absurd q (by decide), fun _ => mark_Open ew hw hl (by omega) hc _ ⟨by decide, ?_⟩⟩)
    rw [← e1]
    refine GX4_markAllStages_Open_2 c (0 + 1) ⟨fun q => absurd q (by decide), fun _ => mark_Open w1 hw hl (by omega) hc _ ⟨by decide, ?_⟩⟩
    rw [← e2]
    refine GX4_markAllStages_Open_2 c (0 + 1 + 1) ⟨fun q => absurd q (by decide), fun _ => mark_Open w2 hw hl (by omega) hc _ ⟨by decide, ?_⟩⟩
    rw [← e3]
    exact GX4_markAllStages_Open_2 c (0 + 1 + 1 + 1) ⟨fun _ => hP, fun q => absurd q (by decide)⟩
theorem markAll_Held (ew : hi 19 0 7 = wd) (hw : 1 ≤ wd ∧ wd ≤ 16) (hl : ln ≤ 16) {j : Int} {c : Int} (hc : 0 ≤ c ∧ c < ln * wd) {X : Int → Prop} (S : SI (hi 23 j) ln wd X) : ∃ hi', (∀ q, q ≠ 23 → hi' q = hi q) ∧ (∀ i, i ≠ j → hi' 23 i = hi 23 i) ∧ SI (hi' 23 j) ln wd (fun p => X p ∨ p / 3 = c) ∧ R1v mX4_markAllStages [.inr (some (19, 0)), .inr (some (23, j)), .inl c] hi hr hi' := by
  obtain ⟨h1, e1⟩ : ∃ h1, h1 = zup hi 23 j (0 * 16 + c / wd) (zlor (hi 23 j (0 * 16 + c / wd)) (zlshl 1 (0 * 20 + c % wd))) := ⟨_, rfl⟩
  obtain ⟨h2, e2⟩ : ∃ h2, h2 = zup h1 23 j (0 * 16 + c / wd) (zlor (h1 23 j (0 * 16 + c / wd)) (zlshl 1 ((0 + 1) * 20 + c % wd))) := ⟨_, rfl⟩
  obtain ⟨h3, e3⟩ : ∃ h3, h3 = zup h2 23 j (0 * 16 + c / wd) (zlor (h2 23 j (0 * 16 + c / wd)) (zlshl 1 ((0 + 1 + 1) * 20 + c % wd))) := ⟨_, rfl⟩
  have at' : ∀ (g g' : zI) (z : Int), g' = zup g 23 j (0 * 16 + c / wd) (zlor (g 23 j (0 * 16 + c / wd)) z) → ∀ y, 0 ≤ y → y < ln → g' 23 j y = if y = c / wd then zlor (g 23 j y) z else g 23 j y := by
    intro g g' z e y _ _
    rw [e, zup_at]
    by_cases q : y = c / wd
    · rw [if_pos (by omega), if_pos q, q, show (0 * 16 + c / wd : Int) = c / wd by omega]
    · rw [if_neg (by omega), if_neg q]
  refine ⟨h3, fun q hq => ?_, fun i hi => ?_, S.mark3 hw (at' _ _ _ e1) (at' _ _ _ e2) (at' _ _ _ e3), fun P hP => ?_⟩
  · rw [e3, zup_kf _ _ _ _ hq, e2, zup_kf _ _ _ _ hq, e1, zup_kf _ _ _ _ hq]
  · rw [e3, zup_jf _ _ _ hi, e2, zup_jf _ _ _ hi, e1, zup_jf _ _ _ hi]
  · have w1 : h1 19 0 7 = wd := by rw [e1, zup_kf _ _ _ _ (by decide)]; exact ew
    have w2 : h2 19 0 7 = wd := by rw [e2, zup_kf _ _ _ _ (by decide)]; exact w1
    refine GX4_markAllStages_Held j c (GX4_markAllStages_Held_2 j c 0 ⟨fun q => absurd q (by decide), fun _ => mark_Held ew hw hl (by omega) hc _ ⟨by decide, ?_⟩⟩)
    rw [← e1]
    refine GX4_markAllStages_Held_2 j c (0 + 1) ⟨fun q => absurd q (by decide), fun _ => mark_Held w1 hw hl (by omega) hc _ ⟨by decide, ?_⟩⟩
    rw [← e2]
    refine GX4_markAllStages_Held_2 j c (0 + 1 + 1) ⟨fun q => absurd q (by decide), fun _ => mark_Held w2 hw hl (by omega) hc _ ⟨by decide, ?_⟩⟩
    rw [← e3]
    exact GX4_markAllStages_Held_2 j c (0 + 1 + 1 + 1) ⟨fun _ => hP, fun q => absurd q (by decide)⟩
theorem isReached_run (hR : RSc hr) (ew : hi 19 0 7 = wd) (hw : 1 ≤ wd ∧ wd ≤ 16) (hl : ln ≤ 16) {c s l2 : Int} (h2 : 0 ≤ l2 ∧ l2 ≤ 300) (hs : 0 ≤ s ∧ s < 3) (hc : 0 ≤ c ∧ c < ln * wd) {X : Int → Prop} (h : SI (fun y => hi 20 0 (l2 * 16 + y)) ln wd X) (x : Int) (hx : (x = 1 ∧ X (3 * c + s)) ∨ (x = 0 ∧ ¬ X (3 * c + s))) : R0i mX4_isReached [.inr (some (19, 0)), .inl l2, .inl s, .inl c] hi hr x := by
  intro P hP
  have d := div_bd hw.1 hl hc
  have m0 := Int.emod_nonneg c (show wd ≠ 0 by omega)
  have m1 := Int.emod_lt_of_pos c (show 0 < wd by omega)
  have hb := h (c / wd) s.toNat (c % wd).toNat d.1 d.2.1 (by omega) (by omega)
  rw [Int.toNat_of_nonneg m0, Int.toNat_of_nonneg hs.1] at hb
  have ec : (c / wd) * wd + c % wd = c := by rw [Int.mul_comm]; exact Int.mul_ediv_add_emod c wd
  rw [ec] at hb
  have hg := bt_get (a := hi 20 0 (l2 * 16 + c / wd)) (k := s * 20 + c % wd) (by omega) (by omega)
  have en : (s * 20 + c % wd).toNat = 20 * s.toNat + (c % wd).toNat := by omega
  rw [en] at hg
  subst ew
  refine GX4_isReached hR l2 s c ⟨fun q => absurd q (by omega), fun _ => ⟨fun _ => ⟨⟨by omega, by omega⟩, ⟨hc.1, by omega⟩, ⟨by omega, by omega⟩, fun q => absurd q (by omega), fun _ => ⟨fun _ => ⟨by omega, ⟨by omega, by omega⟩, ⟨hc.1, by omega⟩, ⟨by omega, by omega⟩, fun q => ?_, fun q => ?_⟩, fun q => absurd q (by omega)⟩⟩, fun q => absurd q (by omega)⟩⟩
  · rcases hx with ⟨x1, x2⟩ | ⟨x1, x2⟩
    · have := hb.mpr ⟨by omega, m1, x2⟩
      rw [hg.mp q] at this
      cases this
    · rw [x1] at hP; exact hP
  · rcases hx with ⟨x1, x2⟩ | ⟨x1, x2⟩
    · rw [x1] at hP; exact hP
    · refine absurd (hg.mpr ?_) q
      cases z : bt (hi 20 0 (l2 * 16 + c / hi 19 0 7)) (20 * s.toNat + (c % hi 19 0 7).toNat) with
      | false => rfl
      | true => exact absurd (hb.mp z).2.2 x2
theorem fill_Open : ∀ (n : Nat) (hi : zI) (a : Int), 0 ≤ a → a + n = 16 → ∀ P : zI → Prop, P (zfil hi 21 0 a 16 0) → WP mJ7_fill_d0a16 6 [some (.inr (some (21, 0))), some (.lo 0), none, some (.inl a), some (.inl 16)] [] hi hr (zQ1v hr P) := by
  intro n
  induction n with
  | zero =>
    intro hi a h0 h1 P hP
    rw [zfil_0 _ _ _ _ _ _ (by omega)] at hP
    exact GJ7_fill_d0a16_Open_6 0 a 16 ⟨fun _ => hP, fun q => absurd q (by omega)⟩
  | succ n ih =>
    intro hi a h0 h1 P hP
    refine GJ7_fill_d0a16_Open_6 0 a 16 ⟨fun h => absurd h (by omega), fun _ => ⟨⟨h0, by omega⟩, ⟨by omega, by omega⟩, ?_⟩⟩
    refine ih _ (a + 1) (by omega) (by omega) P ?_
    rw [zfil_s _ _ _ _ _ _ (by omega)]
    exact hP
theorem fill_Turns : ∀ (n : Nat) (hi : zI) (a : Int), 0 ≤ a → a + n = 16 → ∀ P : zI → Prop, P (zfil hi 22 0 a 16 0) → WP mJ7_fill_d0a16 6 [some (.inr (some (22, 0))), some (.lo 0), none, some (.inl a), some (.inl 16)] [] hi hr (zQ1v hr P) := by
  intro n
  induction n with
  | zero =>
    intro hi a h0 h1 P hP
    rw [zfil_0 _ _ _ _ _ _ (by omega)] at hP
    exact GJ7_fill_d0a16_Turns_6 0 a 16 ⟨fun _ => hP, fun q => absurd q (by omega)⟩
  | succ n ih =>
    intro hi a h0 h1 P hP
    refine GJ7_fill_d0a16_Turns_6 0 a 16 ⟨fun h => absurd h (by omega), fun _ => ⟨⟨h0, by omega⟩, ⟨by omega, by omega⟩, ?_⟩⟩
    refine ih _ (a + 1) (by omega) (by omega) P ?_
    rw [zfil_s _ _ _ _ _ _ (by omega)]
    exact hP
theorem fill_Held (j : Int) : ∀ (n : Nat) (hi : zI) (a : Int), 0 ≤ a → a + n = 16 → ∀ P : zI → Prop, P (zfil hi 23 j a 16 0) → WP mJ7_fill_d0a16 6 [some (.inr (some (23, j))), some (.lo 0), none, some (.inl a), some (.inl 16)] [] hi hr (zQ1v hr P) := by
  intro n
  induction n with
  | zero =>
    intro hi a h0 h1 P hP
    rw [zfil_0 _ _ _ _ _ _ (by omega)] at hP
    exact GJ7_fill_d0a16_Held_6 j 0 a 16 ⟨fun _ => hP, fun q => absurd q (by omega)⟩
  | succ n ih =>
    intro hi a h0 h1 P hP
    refine GJ7_fill_d0a16_Held_6 j 0 a 16 ⟨fun h => absurd h (by omega), fun _ => ⟨⟨h0, by omega⟩, ⟨by omega, by omega⟩, ?_⟩⟩
    refine ih _ (a + 1) (by omega) (by omega) P ?_
    rw [zfil_s _ _ _ _ _ _ (by omega)]
    exact hP
theorem clear_from (hR : RSc hr) (l : Int) (hl : 0 ≤ l ∧ l ≤ 300) : ∀ (n : Nat) (hi : zI) (a : Int), 0 ≤ a → a + n = 16 → ∀ P : zI → Prop, P (zfil hi 20 0 (l * 16 + a) (l * 16 + 16) 0) → WP mX4_clearStep 7 [some (.inr (some (19, 0))), some (.inl l), some (.inl (l * 16)), some (.inl a)] [] hi hr (zQ1v hr P) := by
  intro n
  induction n with
  | zero =>
    intro hi a h0 h1 P hP
    rw [zfil_0 _ _ _ _ _ _ (by omega)] at hP
    exact GX4_clearStep_7 hR l (l * 16) a ⟨fun _ => hP, fun q => absurd q (by omega)⟩
  | succ n ih =>
    intro hi a h0 h1 P hP
    refine GX4_clearStep_7 hR l (l * 16) a ⟨fun q => absurd q (by omega), fun _ => ⟨⟨by omega, by omega⟩, fun q => absurd q (by omega), fun _ => ⟨⟨by omega, by omega⟩, by omega, ⟨by omega, by omega⟩, ?_⟩⟩⟩
    refine ih _ (a + 1) (by omega) (by omega) P ?_
    rw [← Int.add_assoc, zfil_s _ _ _ _ _ _ (by omega)]
    exact hP
theorem clearStep_run (hR : RSc hr) {l : Int} (hl : 0 ≤ l ∧ l ≤ 300) : R1v mX4_clearStep [.inr (some (19, 0)), .inl l] hi hr (zfil hi 20 0 (l * 16) (l * 16 + 16) 0) := by
  intro P hP
  refine GX4_clearStep l ⟨⟨by omega, by omega⟩, ?_⟩
  refine clear_from hR l hl 16 hi 0 (by omega) (by omega) P ?_
  rw [Int.add_zero]
  exact hP
end ZK
