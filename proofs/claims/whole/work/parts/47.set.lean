/-- a set of cells, a number a line -/
def SI (f : Int → Int) (ln wd : Int) (X : Int → Prop) : Prop := ∀ (y : Int) (x : Nat), 0 ≤ y → y < ln → x < 32 → (bt (f y) x = true ↔ (x : Int) < wd ∧ X (y * wd + x))
theorem SI.empty {f : Int → Int} {ln wd : Int} (h : ∀ y, 0 ≤ y → y < ln → f y = 0) : SI f ln wd (fun _ => False) := by
  intro y x a b _
  rw [h y a b, bt_0]
  exact ⟨fun q => (by cases q), fun q => q.2.elim⟩
theorem SI.cong {f f' : Int → Int} {ln wd : Int} {X X' : Int → Prop} (h : SI f ln wd X) (e : ∀ y, 0 ≤ y → y < ln → f' y = f y) (e' : ∀ y x, 0 ≤ y → y < ln → 0 ≤ x → x < wd → (X' (y * wd + x) ↔ X (y * wd + x))) : SI f' ln wd X' := by
  intro y x a b d
  rw [e y a b, h y x a b d]
  exact ⟨fun q => ⟨q.1, (e' y x a b (by omega) q.1).mpr q.2⟩, fun q => ⟨q.1, (e' y x a b (by omega) q.1).mp q.2⟩⟩
theorem SI.mark {f f' : Int → Int} {ln wd : Int} {X : Int → Prop} {c : Int} (h : SI f ln wd X) (hw : 1 ≤ wd ∧ wd ≤ 16) (hc : 0 ≤ c ∧ c < ln * wd) (e : ∀ y, 0 ≤ y → y < ln → f' y = if y = c / wd then zor (f y) (zshl 1 (c % wd)) else f y) : SI f' ln wd (fun c' => X c' ∨ c' = c) := by
  intro y x a b d
  have m0 := Int.emod_nonneg c (show wd ≠ 0 by omega)
  have m1 := Int.emod_lt_of_pos c (show 0 < wd by omega)
  have ec : c = (c / wd) * wd + c % wd := by rw [Int.mul_comm]; exact (Int.mul_ediv_add_emod c wd).symm
  rw [e y a b]
  by_cases q : y = c / wd
  · rw [if_pos q, bt_or, bt_mark m0 (by omega) d, Bool.or_eq_true, h y x a b d, decide_eq_true_iff]
    constructor
    · rintro (z | z)
      · exact ⟨z.1, Or.inl z.2⟩
      · refine ⟨by omega, Or.inr ?_⟩
        rw [q, z]; exact ec.symm
    · rintro ⟨z1, z | z⟩
      · exact Or.inl ⟨z1, z⟩
      · refine Or.inr ?_
        rw [ec] at z
        exact (gc_inj (by omega) z1 m0 m1 z).2
  · rw [if_neg q, h y x a b d]
    constructor
    · exact fun z => ⟨z.1, Or.inl z.2⟩
    · rintro ⟨z1, z | z⟩
      · exact ⟨z1, z⟩
      · refine absurd ?_ q
        rw [ec] at z
        exact (gc_inj (by omega) z1 m0 m1 z).1
theorem div_bd {c ln wd : Int} (hw : 1 ≤ wd) (hl : ln ≤ 16) (hc : 0 ≤ c ∧ c < ln * wd) : 0 ≤ c / wd ∧ c / wd < ln ∧ c / wd < 16 := by
  have a := Int.ediv_nonneg hc.1 (show 0 ≤ wd by omega)
  have b : c / wd < ln := Int.ediv_lt_of_lt_mul (by omega) hc.2
  omega
section ZK
variable {hi : zI} {hr : zR} {ln wd : Int}
theorem mark_Open (ew : hi 19 0 7 = wd) (hw : 1 ≤ wd) (hl : ln ≤ 16) {c : Int} (hc : 0 ≤ c ∧ c < ln * wd) : R1v mX4_mark [.inr (some (19, 0)), .inr (some (21, 0)), .inl 0, .inl c] hi hr (zup hi 21 0 (0 + c / wd) (zor (hi 21 0 (0 + c / wd)) (zshl 1 (c % wd)))) := by
  intro P hP
  have d := div_bd hw hl hc
  subst ew
  exact GX4_mark_Open 0 c ⟨fun q => absurd q (by omega), fun _ => ⟨fun _ => ⟨⟨hc.1, by omega⟩, ⟨by omega, by omega⟩, fun q => absurd q (by omega), fun _ => ⟨fun q => absurd q (by omega), fun _ => ⟨by omega, ⟨hc.1, by omega⟩, by omega, hP⟩⟩⟩, fun q => absurd q (by omega)⟩⟩
theorem mark_Turns (ew : hi 19 0 7 = wd) (hw : 1 ≤ wd) (hl : ln ≤ 16) {c l2 : Int} (h2 : 0 ≤ l2 ∧ l2 ≤ 32) (hc : 0 ≤ c ∧ c < ln * wd) : R1v mX4_mark [.inr (some (19, 0)), .inr (some (22, 0)), .inl l2, .inl c] hi hr (zup hi 22 0 (l2 + c / wd) (zor (hi 22 0 (l2 + c / wd)) (zshl 1 (c % wd)))) := by
  intro P hP
  have d := div_bd hw hl hc
  subst ew
  exact GX4_mark_Turns l2 c ⟨fun q => absurd q (by omega), fun _ => ⟨fun _ => ⟨⟨hc.1, by omega⟩, ⟨by omega, by omega⟩, fun q => absurd q (by omega), fun _ => ⟨fun q => absurd q (by omega), fun _ => ⟨by omega, ⟨hc.1, by omega⟩, by omega, hP⟩⟩⟩, fun q => absurd q (by omega)⟩⟩
theorem mark_Reached (ew : hi 19 0 7 = wd) (hw : 1 ≤ wd) (hl : ln ≤ 16) {c l2 : Int} (h2 : 0 ≤ l2 ∧ l2 ≤ 14432) (hc : 0 ≤ c ∧ c < ln * wd) : R1v mX4_mark [.inr (some (19, 0)), .inr (some (20, 0)), .inl l2, .inl c] hi hr (zup hi 20 0 (l2 + c / wd) (zor (hi 20 0 (l2 + c / wd)) (zshl 1 (c % wd)))) := by
  intro P hP
  have d := div_bd hw hl hc
  subst ew
  exact GX4_mark_Reached l2 c ⟨fun q => absurd q (by omega), fun _ => ⟨fun _ => ⟨⟨hc.1, by omega⟩, ⟨by omega, by omega⟩, fun q => absurd q (by omega), fun _ => ⟨fun q => absurd q (by omega), fun _ => ⟨by omega, ⟨hc.1, by omega⟩, by omega, hP⟩⟩⟩, fun q => absurd q (by omega)⟩⟩
theorem mark_Held (ew : hi 19 0 7 = wd) (hw : 1 ≤ wd) (hl : ln ≤ 16) {c j : Int} (hc : 0 ≤ c ∧ c < ln * wd) : R1v mX4_mark [.inr (some (19, 0)), .inr (some (23, j)), .inl 0, .inl c] hi hr (zup hi 23 j (0 + c / wd) (zor (hi 23 j (0 + c / wd)) (zshl 1 (c % wd)))) := by
  intro P hP
  have d := div_bd hw hl hc
  subst ew
  exact GX4_mark_Held j 0 c ⟨fun q => absurd q (by omega), fun _ => ⟨fun _ => ⟨⟨hc.1, by omega⟩, ⟨by omega, by omega⟩, fun q => absurd q (by omega), fun _ => ⟨fun q => absurd q (by omega), fun _ => ⟨by omega, ⟨hc.1, by omega⟩, by omega, hP⟩⟩⟩, fun q => absurd q (by omega)⟩⟩
theorem isReached_run (hR : RSc hr) (ew : hi 19 0 7 = wd) (hw : 1 ≤ wd ∧ wd ≤ 16) (hl : ln ≤ 16) {c l2 : Int} (h2 : 0 ≤ l2 ∧ l2 ≤ 14432) (hc : 0 ≤ c ∧ c < ln * wd) {X : Int → Prop} (h : SI (fun y => hi 20 0 (l2 + y)) ln wd X) (x : Int) (hx : (x = 1 ∧ X c) ∨ (x = 0 ∧ ¬ X c)) : R0i mX4_isReached [.inr (some (19, 0)), .inl l2, .inl c] hi hr x := by
  intro P hP
  have d := div_bd hw.1 hl hc
  have m0 := Int.emod_nonneg c (show wd ≠ 0 by omega)
  have m1 := Int.emod_lt_of_pos c (show 0 < wd by omega)
  have hb := h (c / wd) (c % wd).toNat d.1 d.2.1 (by omega)
  rw [Int.toNat_of_nonneg m0] at hb
  have ec : (c / wd) * wd + c % wd = c := by rw [Int.mul_comm]; exact Int.mul_ediv_add_emod c wd
  rw [ec] at hb
  have hg := bt_get (a := hi 20 0 (l2 + c / wd)) m0 (show c % wd < 16 by omega)
  subst ew
  refine GX4_isReached hR l2 c ⟨fun q => absurd q (by omega), fun _ => ⟨fun _ => ⟨⟨hc.1, by omega⟩, ⟨by omega, by omega⟩, fun q => absurd q (by omega), fun _ => ⟨fun q => absurd q (by omega), fun _ => ⟨by omega, ⟨hc.1, by omega⟩, fun q => ?_, fun q => ?_⟩⟩⟩, fun q => absurd q (by omega)⟩⟩
  · rcases hx with ⟨x1, x2⟩ | ⟨x1, x2⟩
    · have := hb.mpr ⟨m1, x2⟩
      rw [hg.mp q] at this
      cases this
    · rw [x1] at hP; exact hP
  · rcases hx with ⟨x1, x2⟩ | ⟨x1, x2⟩
    · rw [x1] at hP; exact hP
    · refine absurd (hg.mpr ?_) q
      cases z : bt (hi 20 0 (l2 + c / hi 19 0 7)) (c % hi 19 0 7).toNat with
      | false => rfl
      | true => exact absurd (hb.mp z).2 x2
theorem fill_Open : ∀ (n : Nat) (hi : zI) (a : Int), 0 ≤ a → a + n = 16 → ∀ P : zI → Prop, P (zfil hi 21 0 a 16 0) → WP mJ7_fill_53178 5 [some (.inr (some (21, 0))), some (.inl 0), some (.inl a), some (.inl 16)] [] hi hr (zQ1v hr P) := by
  intro n
  induction n with
  | zero =>
    intro hi a h0 h1 P hP
    rw [zfil_0 _ _ _ _ _ _ (by omega)] at hP
    exact GJ7_fill_53178_Open_5 0 a 16 ⟨fun _ => hP, fun q => absurd q (by omega)⟩
  | succ n ih =>
    intro hi a h0 h1 P hP
    refine GJ7_fill_53178_Open_5 0 a 16 ⟨fun h => absurd h (by omega), fun _ => ⟨⟨h0, by omega⟩, ⟨by omega, by omega⟩, ?_⟩⟩
    refine ih _ (a + 1) (by omega) (by omega) P ?_
    rw [zfil_s _ _ _ _ _ _ (by omega)]
    exact hP
theorem fill_Turns : ∀ (n : Nat) (hi : zI) (a : Int), 0 ≤ a → a + n = 48 → ∀ P : zI → Prop, P (zfil hi 22 0 a 48 0) → WP mJ7_fill_53178 5 [some (.inr (some (22, 0))), some (.inl 0), some (.inl a), some (.inl 48)] [] hi hr (zQ1v hr P) := by
  intro n
  induction n with
  | zero =>
    intro hi a h0 h1 P hP
    rw [zfil_0 _ _ _ _ _ _ (by omega)] at hP
    exact GJ7_fill_53178_Turns_5 0 a 48 ⟨fun _ => hP, fun q => absurd q (by omega)⟩
  | succ n ih =>
    intro hi a h0 h1 P hP
    refine GJ7_fill_53178_Turns_5 0 a 48 ⟨fun h => absurd h (by omega), fun _ => ⟨⟨h0, by omega⟩, ⟨by omega, by omega⟩, ?_⟩⟩
    refine ih _ (a + 1) (by omega) (by omega) P ?_
    rw [zfil_s _ _ _ _ _ _ (by omega)]
    exact hP
theorem fill_Held (j : Int) : ∀ (n : Nat) (hi : zI) (a : Int), 0 ≤ a → a + n = 16 → ∀ P : zI → Prop, P (zfil hi 23 j a 16 0) → WP mJ7_fill_53178 5 [some (.inr (some (23, j))), some (.inl 0), some (.inl a), some (.inl 16)] [] hi hr (zQ1v hr P) := by
  intro n
  induction n with
  | zero =>
    intro hi a h0 h1 P hP
    rw [zfil_0 _ _ _ _ _ _ (by omega)] at hP
    exact GJ7_fill_53178_Held_5 j 0 a 16 ⟨fun _ => hP, fun q => absurd q (by omega)⟩
  | succ n ih =>
    intro hi a h0 h1 P hP
    refine GJ7_fill_53178_Held_5 j 0 a 16 ⟨fun h => absurd h (by omega), fun _ => ⟨⟨h0, by omega⟩, ⟨by omega, by omega⟩, ?_⟩⟩
    refine ih _ (a + 1) (by omega) (by omega) P ?_
    rw [zfil_s _ _ _ _ _ _ (by omega)]
    exact hP
theorem rowOf_run {l s : Int} (h : 0 ≤ l ∧ l ≤ 301) (h' : 0 ≤ s ∧ s ≤ 3) : R0i mX4_rowOf [.inl l, .inl s] hi hr (l * 48 + s * 16) := by
  intro P hP
  exact GX4_rowOf l s ⟨⟨by omega, by omega⟩, ⟨by omega, by omega⟩, ⟨by omega, by omega⟩, hP⟩
theorem clear_from (hR : RSc hr) (l : Int) (hl : 0 ≤ l ∧ l ≤ 300) : ∀ (n : Nat) (hi : zI) (a : Int), 0 ≤ a → a + n = 48 → ∀ P : zI → Prop, P (zfil hi 20 0 (l * 48 + a) (l * 48 + 48) 0) → WP mX4_clearLayer 8 [some (.inr (some (19, 0))), some (.inl l), some (.inl (l * 48)), some (.inl a)] [] hi hr (zQ1v hr P) := by
  intro n
  induction n with
  | zero =>
    intro hi a h0 h1 P hP
    rw [zfil_0 _ _ _ _ _ _ (by omega)] at hP
    exact GX4_clearLayer_8 hR l (l * 48) a ⟨fun _ => hP, fun q => absurd q (by omega)⟩
  | succ n ih =>
    intro hi a h0 h1 P hP
    refine GX4_clearLayer_8 hR l (l * 48) a ⟨fun q => absurd q (by omega), fun _ => ⟨⟨by omega, by omega⟩, fun q => absurd q (by omega), fun _ => ⟨⟨by omega, by omega⟩, by omega, ⟨by omega, by omega⟩, ?_⟩⟩⟩
    refine ih _ (a + 1) (by omega) (by omega) P ?_
    rw [← Int.add_assoc, zfil_s _ _ _ _ _ _ (by omega)]
    exact hP
theorem clearLayer_run (hR : RSc hr) {l : Int} (hl : 0 ≤ l ∧ l ≤ 300) : R1v mX4_clearLayer [.inr (some (19, 0)), .inl l] hi hr (zfil hi 20 0 (l * 48) (l * 48 + 48) 0) := by
  intro P hP
  refine GX4_clearLayer l (rowOf_run (by omega) (by omega) _ ?_)
  rw [show l * 48 + 0 * 16 = l * 48 by omega]
  refine clear_from hR l hl 48 hi 0 (by omega) (by omega) P ?_
  rw [Int.add_zero]
  exact hP
end ZK
