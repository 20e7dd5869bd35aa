section ZA
variable {ln wd c0 : Int} {k : Int → Int}
theorem at_run {m : zI} {hr : zR} (hM : RSm hr) (E : AE m ln wd k) {i : Int} (hi : 0 ≤ i ∧ i < ln * wd) : (0 ≤ i ∧ 0 < m 37 0 14) ∧ R0i mX12_readAt [.inr (some (37, 0)), .inl (i / m 37 0 14), .inl (i % m 37 0 14)] m hr (k i) := by
  have E0 := E
  obtain ⟨e13, e14, hw, hl, hk, hkb⟩ := E
  obtain ⟨y, x, y0, y1, x0, x1, e⟩ := gc_of hw.1 hi.1 hi.2
  have g := gc_div (wd := wd) (x := x) y x0 x1
  refine ⟨⟨hi.1, by omega⟩, ?_⟩
  rw [e14, e, g.1, g.2]
  exact readAt_run hM E0 _ (Or.inl ⟨rfl, y0, y1, x0, x1⟩)
theorem met_later {m : zI} (E : AE m ln wd k) (hs : ∀ x, 0 ≤ x → x < ln * wd → (m 43 0 x ≠ 0 ↔ Rea ln wd k c0 x)) (h00 : 0 ≤ c0) : ∀ (n : Nat) (i : Int), i + n = ln * wd → c0 ≤ i → (∀ x, c0 ≤ x → x < i → 2 ≤ k x → Rea ln wd k c0 x) →
    ((∀ x, c0 ≤ x → x < ln * wd → 2 ≤ k x → Rea ln wd k c0 x) ∧ ∀ hr, RSm hr → ∀ (P : Int → zI → Prop) a3 u5 u6 u7 u8 u9, (∀ u3 u4 u5 u6 u7 u8 u9, WP mX12_apart 12 [some (.inr (some (37, 0))), some (.inl (ln * wd)), some (.inl (c0 + 1)), u3, u4, u5, u6, u7, u8, u9] [] m hr (zQ1i hr P)) → WP mX12_apart 271 [some (.inr (some (37, 0))), some (.inl (ln * wd)), some (.inl c0), some (.inl a3), some (.inl i), u5, u6, u7, u8, u9] [] m hr (zQ1i hr P)) ∨
    ((∃ x, c0 ≤ x ∧ x < ln * wd ∧ 2 ≤ k x ∧ ¬ Rea ln wd k c0 x) ∧ ∀ hr, RSm hr → ∀ (P : Int → zI → Prop) a3 u5 u6 u7 u8 u9, P c0 m → WP mX12_apart 271 [some (.inr (some (37, 0))), some (.inl (ln * wd)), some (.inl c0), some (.inl a3), some (.inl i), u5, u6, u7, u8, u9] [] m hr (zQ1i hr P)) := by
  have E0 := E
  obtain ⟨e13, e14, hw, hl, hk, hkb⟩ := E
  have mx := mul_bd (a := ln) (b := wd) (A := 16) (B := 16) (by omega) (by omega) (by omega) (by omega)
  intro n
  induction n with
  | zero =>
    intro i hn h0 h
    exact Or.inl ⟨fun x a b => h x a (by omega), fun hr hM P a3 u5 u6 u7 u8 u9 hP => GX12_apart_271 hM _ c0 a3 i u5 u6 u7 u8 u9 ⟨fun _ => ⟨⟨by omega, by omega⟩, hP _ _ _ _ _ _ _⟩, fun z => absurd z (by omega)⟩⟩
  | succ n ih =>
    intro i hn h0 h
    have zi : zInR (i + 1) := ⟨by omega, by omega⟩
    by_cases q : 2 ≤ k i
    · by_cases s : Rea ln wd k c0 i
      · have sn := (hs i (by omega) (by omega)).mpr s
        rcases ih (i + 1) (by omega) (by omega) (fun x a b d => by
          by_cases z : x = i
          · rw [z]; exact s
          · exact h x a (by omega) d) with ⟨a, w⟩ | ⟨a, w⟩
        · exact Or.inl ⟨a, fun hr hM P a3 u5 u6 u7 u8 u9 hP => GX12_apart_271 hM _ c0 a3 i u5 u6 u7 u8 u9 ⟨fun z => absurd z (by omega), fun _ => ⟨(at_run hM E0 (by omega)).1, (at_run hM E0 (by omega)).1, (at_run hM E0 (by omega)).2 _ ⟨fun z => absurd z (by omega), fun _ => ⟨by omega, fun _ => ⟨zi, w hr hM P a3 u5 u6 u7 u8 u9 hP⟩, fun z => absurd z sn⟩⟩⟩⟩⟩
        · exact Or.inr ⟨a, fun hr hM P a3 u5 u6 u7 u8 u9 hP => GX12_apart_271 hM _ c0 a3 i u5 u6 u7 u8 u9 ⟨fun z => absurd z (by omega), fun _ => ⟨(at_run hM E0 (by omega)).1, (at_run hM E0 (by omega)).1, (at_run hM E0 (by omega)).2 _ ⟨fun z => absurd z (by omega), fun _ => ⟨by omega, fun _ => ⟨zi, w hr hM P a3 u5 u6 u7 u8 u9 hP⟩, fun z => absurd z sn⟩⟩⟩⟩⟩
      · have sn : m 43 0 i = 0 := by
          by_cases z : m 43 0 i = 0
          · exact z
          · exact absurd ((hs i (by omega) (by omega)).mp z) s
        exact Or.inr ⟨⟨i, h0, by omega, q, s⟩, fun hr hM P a3 u5 u6 u7 u8 u9 hP => GX12_apart_271 hM _ c0 a3 i u5 u6 u7 u8 u9 ⟨fun z => absurd z (by omega), fun _ => ⟨(at_run hM E0 (by omega)).1, (at_run hM E0 (by omega)).1, (at_run hM E0 (by omega)).2 _ ⟨fun z => absurd z (by omega), fun _ => ⟨by omega, fun z => absurd sn z, fun _ => hP⟩⟩⟩⟩⟩
    · rcases ih (i + 1) (by omega) (by omega) (fun x a b d => by
        by_cases z : x = i
        · rw [z] at d; exact absurd d q
        · exact h x a (by omega) d) with ⟨a, w⟩ | ⟨a, w⟩
      · exact Or.inl ⟨a, fun hr hM P a3 u5 u6 u7 u8 u9 hP => GX12_apart_271 hM _ c0 a3 i u5 u6 u7 u8 u9 ⟨fun z => absurd z (by omega), fun _ => ⟨(at_run hM E0 (by omega)).1, (at_run hM E0 (by omega)).1, (at_run hM E0 (by omega)).2 _ ⟨fun _ => ⟨zi, w hr hM P a3 u5 u6 u7 u8 u9 hP⟩, fun z => absurd z (by omega)⟩⟩⟩⟩
      · exact Or.inr ⟨a, fun hr hM P a3 u5 u6 u7 u8 u9 hP => GX12_apart_271 hM _ c0 a3 i u5 u6 u7 u8 u9 ⟨fun z => absurd z (by omega), fun _ => ⟨(at_run hM E0 (by omega)).1, (at_run hM E0 (by omega)).1, (at_run hM E0 (by omega)).2 _ ⟨fun _ => ⟨zi, w hr hM P a3 u5 u6 u7 u8 u9 hP⟩, fun z => absurd z (by omega)⟩⟩⟩⟩
/-- what is met begins anew -/
theorem met_clear (h00 : 0 ≤ c0) (hc1 : c0 < ln * wd) (hmx : ln * wd ≤ 256) : ∀ (n : Nat) (i : Int) (m : zI), i + n = ln * wd → 0 ≤ i → (∀ x, 0 ≤ x → x < i → m 43 0 x = 0) →
    ∃ m', apE m m' ∧ (∀ x, 0 ≤ x → x < ln * wd → m' 43 0 x = if x = c0 then 1 else 0) ∧ m' 44 0 0 = c0 ∧ ∀ hr, RSm hr → ∀ (P : Int → zI → Prop) u4 u5 u6 u7 u8 u9, WP mX12_apart 76 [some (.inr (some (37, 0))), some (.inl (ln * wd)), some (.inl c0), some (.inl 1), u4, u5, u6, u7, u8, u9] [] m' hr (zQ1i hr P) → WP mX12_apart 42 [some (.inr (some (37, 0))), some (.inl (ln * wd)), some (.inl c0), some (.inl i), u4, u5, u6, u7, u8, u9] [] m hr (zQ1i hr P) := by
  intro n
  induction n with
  | zero =>
    intro i m hn h0 h
    refine ⟨zup (zup m 44 0 0 c0) 43 0 c0 1, fun q x y => by rw [zup_kf _ _ _ _ x, zup_kf _ _ _ _ y], fun x x0 x1 => ?_, ?_, fun hr hM P u4 u5 u6 u7 u8 u9 hP => GX12_apart_42 hM _ c0 i u4 u5 u6 u7 u8 u9 ⟨fun _ => ⟨by omega, hP⟩, fun z => absurd z (by omega)⟩⟩
    · rw [zup_at, zup_kf _ _ _ _ (by decide)]
      split
      · rfl
      · exact h x x0 (by omega)
    · rw [zup_kf _ _ _ _ (by decide), zup_s]
  | succ n ih =>
    intro i m hn h0 h
    obtain ⟨m', a1, a2, a3, a4⟩ := ih (i + 1) (zup m 43 0 i 0) (by omega) (by omega) (fun x x0 x1 => by
      rw [zup_at]
      split
      · rfl
      · exact h x x0 (by omega))
    exact ⟨m', fun q x y => (a1 q x y).trans (zup_kf _ _ _ _ x), a2, a3, fun hr hM P u4 u5 u6 u7 u8 u9 hP => GX12_apart_42 hM _ c0 i u4 u5 u6 u7 u8 u9 ⟨fun z => absurd z (by omega), fun _ => ⟨by omega, ⟨by omega, by omega⟩, a4 hr hM P u4 u5 u6 u7 u8 u9 hP⟩⟩⟩
theorem apart_from : ∀ (n : Nat) (i : Int) (m : zI), i + n = ln * wd → 0 ≤ i → AE m ln wd k → (∀ p, p < i → ¬ bdW ln wd k p) →
    ∃ x m', apE m m' ∧ ((x = -1 ∧ ∀ p, ¬ bdW ln wd k p) ∨ (bdW ln wd k x ∧ ∀ p, p < x → ¬ bdW ln wd k p)) ∧ ∀ hr, RSm hr → ∀ (P : Int → zI → Prop) u3 u4 u5 u6 u7 u8 u9, P x m' → WP mX12_apart 12 [some (.inr (some (37, 0))), some (.inl (ln * wd)), some (.inl i), u3, u4, u5, u6, u7, u8, u9] [] m hr (zQ1i hr P) := by
  intro n
  induction n with
  | zero =>
    intro i m hn h0 E h
    refine ⟨-1, m, fun _ _ _ => rfl, Or.inl ⟨rfl, fun p hp => ?_⟩, fun hr hM P u3 u4 u5 u6 u7 u8 u9 hP => GX12_apart_12 _ i u3 u4 u5 u6 u7 u8 u9 ⟨fun _ => hP, fun z => absurd z (by omega)⟩⟩
    by_cases z : p < i
    · exact h p z hp
    · have := hp.1.2; omega
  | succ n ih =>
    intro i m hn h0 E h
    have E0 := E
    obtain ⟨e13, e14, hw, hl, hk, hkb⟩ := E
    have mx := mul_bd (a := ln) (b := wd) (A := 16) (B := 16) (by omega) (by omega) (by omega) (by omega)
    have zi : zInR (i + 1) := ⟨by omega, by omega⟩
    have hi : 0 ≤ i ∧ i < ln * wd := by omega
    by_cases q : 2 ≤ k i
    · obtain ⟨m1, a1, a2, a3, a4⟩ := met_clear (ln := ln) (wd := wd) (c0 := i) h0 hi.2 (by omega) (ln * wd).toNat 0 m (by omega) (by omega) (fun x y z => by omega)
      have D1 : DI m1 ln wd k i 1 (-1) := by
        refine ⟨fun t t0 t1 => ?_, fun x x0 x1 x2 => ?_, fun x x0 x1 => ?_, ?_, by omega, fun x x0 x1 x2 x3 => ?_⟩
        · have : t = 0 := by omega
          rw [this, a3, a2 i hi.1 hi.2, if_pos rfl]; exact ⟨hi, rfl⟩
        · rw [a2 x x0 x1] at x2
          by_cases z : x = i
          · rw [z]; exact Rea.start ln wd k i
          · rw [if_neg z] at x2; exact absurd rfl x2
        · rw [a2 x x0 x1]
          split
          · exact Or.inr rfl
          · exact Or.inl rfl
        · rw [a2 i hi.1 hi.2, if_pos rfl]
        · rw [a2 x x0 x1] at x3
          by_cases z : x = i
          · exact Or.inl ⟨0, by omega, by omega, by rw [a3, z]⟩
          · rw [if_neg z] at x3; exact absurd x3 (by decide)
      have S1 : smM m1 ln wd = 0 + 1 := by
        have z0 := smI_zero 256
        refine (smI_add1 (i := i) (f := fun _ => 0) hi.1 (by omega) (fun y hy => ?_) ?_).trans (congrArg (fun z => z + 1) z0)
        · by_cases z : 0 ≤ y ∧ y < ln * wd
          · rw [if_neg (fun w => w.2.2 (by rw [a2 y z.1 z.2, if_neg hy]))]
          · rw [if_neg (fun w => z ⟨w.1, w.2.1⟩)]
        · rw [if_pos ⟨hi.1, hi.2, by rw [a2 i hi.1 hi.2, if_pos rfl]; decide⟩]; rfl
      obtain ⟨m2, b1, b2, b3⟩ := dfs_76 (c0 := i) hi (ln * wd) 600 1 m1 (by omega) (E0.keep a1) D1 (by omega)
      have E2 : AE m2 ln wd k := (E0.keep a1).keep b1
      have run : ∀ hr, RSm hr → ∀ (P : Int → zI → Prop) u3 u4 u5 u6 u7 u8 u9, (∀ a3 u5 u6 u7 u8 u9, WP mX12_apart 271 [some (.inr (some (37, 0))), some (.inl (ln * wd)), some (.inl i), some (.inl a3), some (.inl (i + 1)), u5, u6, u7, u8, u9] [] m2 hr (zQ1i hr P)) → WP mX12_apart 12 [some (.inr (some (37, 0))), some (.inl (ln * wd)), some (.inl i), u3, u4, u5, u6, u7, u8, u9] [] m hr (zQ1i hr P) :=
        fun hr hM P u3 u4 u5 u6 u7 u8 u9 hP => GX12_apart_12 _ i u3 u4 u5 u6 u7 u8 u9 ⟨fun z => absurd z (by omega), fun _ => ⟨(at_run hM E0 hi).1, (at_run hM E0 hi).1, (at_run hM E0 hi).2 _ ⟨fun _ => a4 hr hM P _ _ _ _ _ _ (b3 hr hM P _ _ _ _ _ _ hP), fun z => absurd z (by omega)⟩⟩⟩
      rcases met_later E2 b2 h0 (ln * wd - (i + 1)).toNat (i + 1) (by omega) (by omega) (fun x u v w => by
        have : x = i := by omega
        rw [this]; exact Rea.start ln wd k i) with ⟨hy, w⟩ | ⟨hy, w⟩
      · obtain ⟨x, m', d1, d2, d3⟩ := ih (i + 1) m2 (by omega) (by omega) E2 (fun p hp hb => by
          by_cases z : p = i
          · rw [z] at hb
            obtain ⟨v, v1, v2, v3, v4⟩ := hb.2.2
            exact v4 (hy v v1 v2 v3)
          · exact h p (by omega) hb)
        exact ⟨x, m', (a1.trans b1).trans d1, d2, fun hr hM P u3 u4 u5 u6 u7 u8 u9 hP => run hr hM P u3 u4 u5 u6 u7 u8 u9 (fun a3 u5 u6 u7 u8 u9 => w hr hM P a3 u5 u6 u7 u8 u9 (fun u3 u4 u5 u6 u7 u8 u9 => d3 hr hM P u3 u4 u5 u6 u7 u8 u9 hP))⟩
      · exact ⟨i, m2, a1.trans b1, Or.inr ⟨⟨hi, q, hy⟩, h⟩, fun hr hM P u3 u4 u5 u6 u7 u8 u9 hP => run hr hM P u3 u4 u5 u6 u7 u8 u9 (fun a3 u5 u6 u7 u8 u9 => w hr hM P a3 u5 u6 u7 u8 u9 hP)⟩
    · obtain ⟨x, m', d1, d2, d3⟩ := ih (i + 1) m (by omega) (by omega) E0 (fun p hp hb => by
        by_cases z : p = i
        · rw [z] at hb; exact q hb.2.1
        · exact h p (by omega) hb)
      exact ⟨x, m', d1, d2, fun hr hM P u3 u4 u5 u6 u7 u8 u9 hP => GX12_apart_12 _ i u3 u4 u5 u6 u7 u8 u9 ⟨fun z => absurd z (by omega), fun _ => ⟨(at_run hM E0 hi).1, (at_run hM E0 hi).1, (at_run hM E0 hi).2 _ ⟨fun z => absurd z q, fun _ => ⟨zi, d3 hr hM P u3 u4 u5 u6 u7 u8 u9 hP⟩⟩⟩⟩⟩
theorem apart_run {m : zI} (E : AE m ln wd k) : ∃ x m', apE m m' ∧ ((x = -1 ∧ ∀ p, ¬ bdW ln wd k p) ∨ (bdW ln wd k x ∧ ∀ p, p < x → ¬ bdW ln wd k p)) ∧ ∀ hr, RSm hr → R1i mX12_apart [.inr (some (37, 0))] m hr x m' := by
  have E0 := E
  obtain ⟨e13, e14, hw, hl, hk, hkb⟩ := E
  have mx := mul_bd (a := ln) (b := wd) (A := 16) (B := 16) (by omega) (by omega) (by omega) (by omega)
  obtain ⟨x, m', a1, a2, a3⟩ := apart_from (ln * wd).toNat 0 m (by omega) (by omega) E0 (fun p hp hb => by have := hb.1.1; omega)
  refine ⟨x, m', a1, a2, fun hr hM P hP => GX12_apart ?_⟩
  rw [e13, e14]
  exact ⟨⟨by omega, by omega⟩, a3 hr hM P none none none none none none none hP⟩
/-- parkings and stations are counted -/
theorem count_46 {m : zI} (E : AE m ln wd k) (sz : Int) {y : Int} (hy : 0 ≤ y ∧ y < ln) {hr : zR} (hM : RSm hr) (P : Int → zI → Prop) (K : ∀ u5 u6, WP mX12_read 34 [some (.inr (some (37, 0))), some (.inl sz), some (.inl (cnK 3 k (y * wd + wd))), some (.inl (cnK 2 k (y * wd + wd))), some (.inl (y + 1)), u5, u6] [] m hr (zQ1i hr P)) : ∀ (n : Nat) (x : Int) (u6 : Option zV), x + n = wd → 0 ≤ x → WP mX12_read 46 [some (.inr (some (37, 0))), some (.inl sz), some (.inl (cnK 3 k (y * wd + x))), some (.inl (cnK 2 k (y * wd + x))), some (.inl y), some (.inl x), u6] [] m hr (zQ1i hr P) := by
  obtain ⟨e13, e14, hw, hl, hk, hkb⟩ := E
  have mx := mul_bd (a := ln) (b := wd) (A := 16) (B := 16) (by omega) (by omega) (by omega) (by omega)
  intro n
  induction n with
  | zero =>
    intro x u6 hn h0
    have e : x = wd := by omega
    rw [e]
    exact GX12_read_46 hM sz _ _ y wd u6 ⟨fun _ => ⟨⟨by omega, by omega⟩, K _ _⟩, fun z => absurd z (by omega)⟩
  | succ n ih =>
    intro x u6 hn h0
    have g := gc_in hy.1 hy.2 h0 (show x < wd by omega)
    have nx := ih (x + 1)
    have c3 := cnK_le 3 k (show (0 : Int) ≤ 0 by omega) g.1
    have c2 := cnK_le 2 k (show (0 : Int) ≤ 0 by omega) g.1
    rw [cnK_0] at c3 c2
    rw [← Int.add_assoc, cnK_succ 3 k g.1, cnK_succ 2 k g.1] at nx
    refine GX12_read_46 hM sz _ _ y x u6 ⟨fun z => absurd z (by omega), fun _ => ?_⟩
    rw [hk y x hy.1 hy.2 h0 (by omega)]
    refine ⟨⟨by omega, by omega⟩, ⟨by omega, by omega⟩, ⟨by omega, by omega⟩, by omega, fun z3 => ⟨fun z2 => ⟨⟨by omega, by omega⟩, ?_⟩, fun z2 => ⟨⟨by omega, by omega⟩, ⟨by omega, by omega⟩, ?_⟩⟩, fun z3 => ⟨⟨by omega, by omega⟩, fun z2 => ⟨⟨by omega, by omega⟩, ?_⟩, fun z2 => absurd (z3.symm.trans z2) (by decide)⟩⟩
    · rw [if_neg z3, if_neg z2, Int.add_zero, Int.add_zero] at nx
      exact nx _ (by omega) (by omega)
    · rw [if_neg z3, if_pos z2, Int.add_zero] at nx
      exact nx _ (by omega) (by omega)
    · rw [if_pos z3, if_neg z2, Int.add_zero] at nx
      exact nx _ (by omega) (by omega)
theorem count_34 {m : zI} (E : AE m ln wd k) (sz : Int) {hr : zR} (hM : RSm hr) (P : Int → zI → Prop) (K : ∀ u5 u6, WP mX12_read 34 [some (.inr (some (37, 0))), some (.inl sz), some (.inl (cnK 3 k (ln * wd))), some (.inl (cnK 2 k (ln * wd))), some (.inl ln), u5, u6] [] m hr (zQ1i hr P)) : ∀ (n : Nat) (y : Int) (u5 u6 : Option zV), y + n = ln → 0 ≤ y → WP mX12_read 34 [some (.inr (some (37, 0))), some (.inl sz), some (.inl (cnK 3 k (y * wd))), some (.inl (cnK 2 k (y * wd))), some (.inl y), u5, u6] [] m hr (zQ1i hr P) := by
  intro n
  induction n with
  | zero =>
    intro y u5 u6 hn h0
    have e : y = ln := by omega
    rw [e]
    exact K _ _
  | succ n ih =>
    intro y u5 u6 hn h0
    have E0 := E
    obtain ⟨e13, e14, hw, hl, hk, hkb⟩ := E
    refine GX12_read_34 sz _ _ y u5 u6 ⟨fun z => absurd z (by omega), fun _ => ?_⟩
    have := count_46 E0 sz (y := y) ⟨h0, by omega⟩ hM P (fun v5 v6 => ?_) wd.toNat 0 u6 (by omega) (by omega)
    · rw [Int.add_zero] at this
      exact this
    · have := ih (y + 1) v5 v6 (by omega) (by omega)
      rw [Int.add_mul, Int.one_mul] at this
      exact this
end ZA
