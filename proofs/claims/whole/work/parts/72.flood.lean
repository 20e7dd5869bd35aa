/-- what n steps reach from c0, through floor alone -/
def rea (ln wd : Int) (k : Int → Int) (c0 : Int) : Nat → Int → Prop
  | 0, p => p = c0
  | n + 1, q => ∃ p, rea ln wd k c0 n p ∧ (p = c0 ∨ k p < 2) ∧ ∃ d, 0 ≤ d ∧ d < 4 ∧ nbr ln wd k p d = q ∧ q ≠ -1
def Rea (ln wd : Int) (k : Int → Int) (c0 p : Int) : Prop := ∃ n, rea ln wd k c0 n p
theorem Rea.start (ln wd : Int) (k : Int → Int) (c0 : Int) : Rea ln wd k c0 c0 := ⟨0, rfl⟩
theorem Rea.next {ln wd : Int} {k : Int → Int} {c0 p q d : Int} (h : Rea ln wd k c0 p) (hp : p = c0 ∨ k p < 2) (hd : 0 ≤ d ∧ d < 4) (e : nbr ln wd k p d = q) (hq : q ≠ -1) : Rea ln wd k c0 q := by
  obtain ⟨n, hn⟩ := h
  exact ⟨n + 1, p, hn, hp, d, hd.1, hd.2, e, hq⟩
theorem Rea.least {ln wd : Int} {k : Int → Int} {c0 : Int} {X : Int → Prop} (h0 : X c0) (hc : ∀ p d, X p → (p = c0 ∨ k p < 2) → 0 ≤ d → d < 4 → nbr ln wd k p d ≠ -1 → X (nbr ln wd k p d)) : ∀ q, Rea ln wd k c0 q → X q := by
  rintro q ⟨n, hn⟩
  induction n generalizing q with
  | zero => rw [show q = c0 from hn]; exact h0
  | succ n ih =>
    obtain ⟨p, h1, h2, d, d0, d1, e, hq⟩ := hn
    rw [← e]
    exact hc p d (ih p h1) h2 d0 d1 (by rw [e]; exact hq)
theorem smI_add1 {f g : Int → Int} {i : Int} {n : Nat} (h0 : 0 ≤ i) (h1 : i < n) (h : ∀ j, j ≠ i → g j = f j) (hi : g i = f i + 1) : smI g n = smI f n + 1 := by
  have := (smI_pt (f := g) (g := f) (i := i) (fun j hj => (h j hj).symm) (by omega) n).1 h1 h0
  omega
theorem smI_01 {f : Int → Int} (h : ∀ i, f i = 0 ∨ f i = 1) : ∀ n : Nat, 0 ≤ smI f n ∧ smI f n ≤ n := by
  intro n
  induction n with
  | zero => simp [smI]
  | succ n ih =>
    unfold smI
    have := h n
    omega
theorem smI_hole {f : Int → Int} (h : ∀ i, f i = 0 ∨ f i = 1) {i : Int} (h0 : 0 ≤ i) : ∀ n : Nat, i < n → f i = 0 → smI f n + 1 ≤ n := by
  intro n
  induction n with
  | zero => intro a; omega
  | succ n ih =>
    intro a b
    unfold smI
    by_cases q : i = n
    · have := (smI_01 h n).2
      rw [← q, b]
      omega
    · have := ih (by omega) b
      have := h n
      omega
section ZF
variable {j ln wd c0 : Int} {k : Int → Int} {r : zR}
/-- the judge's ground -/
def JE (c : zI) (r : zR) (j ln wd : Int) (k : Int → Int) : Prop := RSc r ∧ (0 ≤ j ∧ j < 2) ∧ (1 ≤ wd ∧ wd ≤ 16) ∧ (1 ≤ ln ∧ ln ≤ 16) ∧ c 30 j 5 = ln * wd ∧ (∀ i, 0 ≤ i → i < ln * wd → c 31 j i = k i ∧ (0 ≤ k i ∧ k i ≤ 3) ∧ ∀ d, 0 ≤ d → d < 4 → c 33 j (i * 4 + d) = nbr ln wd k i d)
theorem JE.keep {c c' : zI} (h : JE c r j ln wd k) (e : ∀ q, q ≠ 4 → q ≠ 5 → q ≠ 6 → c' q = c q) : JE c' r j ln wd k := by
  unfold JE at h ⊢
  rw [e 30 (by decide) (by decide) (by decide), e 31 (by decide) (by decide) (by decide), e 33 (by decide) (by decide) (by decide)]
  exact h
theorem isEnd_run {c : zI} (E : JE c r j ln wd k) {i : Int} (hi : 0 ≤ i ∧ i < ln * wd) (x : Int) (hx : (x = 1 ∧ 2 ≤ k i) ∨ (x = 0 ∧ k i < 2)) : R0i mX10_isEndpoint [.inr (some (30, j)), .inl i] c r x := by
  intro P hP
  obtain ⟨R, hj, hw, hl, e5, hk⟩ := E
  have mx := mul_bd (a := ln) (b := wd) (A := 16) (B := 16) (by omega) (by omega) (by omega) (by omega)
  obtain ⟨k1, k2, -⟩ := hk i hi.1 hi.2
  refine GX10_isEndpoint j i hj (kindOf_run R hj (by omega) (k i) (Or.inl ⟨k1.symm, hi.1, by omega⟩) _ ⟨fun z => ?_, fun z => ⟨fun w => ?_, fun w => ?_⟩⟩)
  · have : x = 1 := by omega
    rw [this] at hP; exact hP
  · have : x = 0 := by omega
    rw [this] at hP; exact hP
  · have : x = 1 := by omega
    rw [this] at hP; exact hP
/-- the flood: cells seen, the row of them -/
def FlI (c : zI) (ln wd : Int) (k : Int → Int) (c0 sz : Int) : Prop := (∀ t, 0 ≤ t → t < sz → (0 ≤ c 5 0 t ∧ c 5 0 t < ln * wd) ∧ c 6 0 (c 5 0 t) = 1 ∧ Rea ln wd k c0 (c 5 0 t)) ∧ (∀ x, c 6 0 x ≠ 0 → 0 ≤ x → x < 256 → ∃ t, 0 ≤ t ∧ t < sz ∧ c 5 0 t = x) ∧ (∀ x, 0 ≤ x → x < 256 → c 6 0 x = 0 ∨ c 6 0 x = 1) ∧ sz = smI (fun x => if 0 ≤ x ∧ x < 256 ∧ c 6 0 x ≠ 0 then 1 else 0) 256 ∧ c 6 0 c0 = 1
theorem sz_bd (c : zI) : 0 ≤ smI (fun x => if 0 ≤ x ∧ x < 256 ∧ c 6 0 x ≠ 0 then (1 : Int) else 0) 256 ∧ smI (fun x => if 0 ≤ x ∧ x < 256 ∧ c 6 0 x ≠ 0 then (1 : Int) else 0) 256 ≤ 256 := by
  have := smI_01 (f := fun x => if 0 ≤ x ∧ x < 256 ∧ c 6 0 x ≠ 0 then (1 : Int) else 0) (fun i => by split <;> simp) 256
  omega
theorem visit_run (R : RSc r) {c : zI} {sz x : Int} (F : FlI c ln wd k c0 sz) (hmx : ln * wd ≤ 256) (hx : x = -1 ∨ ((0 ≤ x ∧ x < ln * wd) ∧ Rea ln wd k c0 x)) : ∃ c' sz', R1i mX2_visit [.inr (some (4, 0)), .inl x, .inl sz] c r sz' c' ∧ (∀ q, q ≠ 5 → q ≠ 6 → c' q = c q) ∧ FlI c' ln wd k c0 sz' ∧ sz ≤ sz' ∧ (∀ t, t < sz → c' 5 0 t = c 5 0 t) ∧ (∀ y, c 6 0 y = 1 → c' 6 0 y = 1) ∧ (x ≠ -1 → c' 6 0 x = 1) := by
  obtain ⟨f1, f2, f3, f4, f5⟩ := F
  have bd := sz_bd c
  rw [← f4] at bd
  by_cases q : x = -1
  · exact ⟨c, sz, fun P hP => GX2_visit R x sz ⟨fun _ => hP, fun z => absurd z (by omega)⟩, fun _ _ _ => rfl, ⟨f1, f2, f3, f4, f5⟩, Int.le_refl _, fun _ _ => rfl, fun _ h => h, fun z => absurd q z⟩
  · obtain ⟨hx1, hx2⟩ := hx.resolve_left q
    by_cases s : c 6 0 x = 0
    · have lt : sz < 256 := by
        have := smI_hole (f := fun x => if 0 ≤ x ∧ x < 256 ∧ c 6 0 x ≠ 0 then (1 : Int) else 0) (fun i => by split <;> simp) hx1.1 256 (by omega) (by rw [if_neg (fun z => z.2.2 s)])
        rw [← f4] at this
        omega
      have e6 : ∀ y, zup (zup c 6 0 x 1) 5 0 sz x 6 0 y = if y = x then 1 else c 6 0 y := fun y => by rw [zup_kf _ _ _ _ (by decide), zup_at]
      have e5 : ∀ t, zup (zup c 6 0 x 1) 5 0 sz x 5 0 t = if t = sz then x else c 5 0 t := fun t => by rw [zup_at, zup_kf _ _ _ _ (by decide)]
      refine ⟨zup (zup c 6 0 x 1) 5 0 sz x, sz + 1, fun P hP => GX2_visit R x sz ⟨fun z => absurd z (by omega), fun _ => ⟨fun z => absurd z (by omega), fun _ => ⟨by omega, fun z => absurd s z, fun _ => ⟨fun z => absurd z (by omega), fun _ => ⟨fun _ => ⟨by omega, by omega, ⟨by omega, by omega⟩, hP⟩, fun z => absurd z (by omega)⟩⟩⟩⟩⟩, fun a b d => by rw [zup_kf _ _ _ _ b, zup_kf _ _ _ _ d], ⟨fun t t0 t1 => ?_, fun y y1 y2 y3 => ?_, fun y y2 y3 => ?_, ?_, ?_⟩, by omega, fun t ht => ?_, fun y hy => ?_, fun _ => ?_⟩
      · rw [e5]
        by_cases z : t = sz
        · rw [if_pos z, e6, if_pos rfl]
          exact ⟨hx1, rfl, hx2⟩
        · rw [if_neg z, e6]
          obtain ⟨g1, g2, g3⟩ := f1 t t0 (by omega)
          refine ⟨g1, ?_, g3⟩
          split
          · rfl
          · exact g2
      · rw [e6] at y1
        by_cases z : y = x
        · exact ⟨sz, by omega, by omega, by rw [e5, if_pos rfl, z]⟩
        · rw [if_neg z] at y1
          obtain ⟨t, t0, t1, t2⟩ := f2 y y1 y2 y3
          exact ⟨t, t0, by omega, by rw [e5, if_neg (by omega)]; exact t2⟩
      · rw [e6]
        split
        · exact Or.inr rfl
        · exact f3 y y2 y3
      · refine (congrArg (fun z => z + 1) f4).trans (smI_add1 (i := x) hx1.1 (by omega) (fun y hy => ?_) ?_).symm
        · rw [e6, if_neg hy]
        · rw [e6, if_pos rfl, if_pos ⟨hx1.1, by omega, by decide⟩, if_neg (fun z => z.2.2 s)]
          rfl
      · rw [e6]
        split
        · rfl
        · exact f5
      · rw [e5, if_neg (by omega)]
      · rw [e6]
        split
        · rfl
        · exact hy
      · rw [e6, if_pos rfl]
    · refine ⟨c, sz, fun P hP => GX2_visit R x sz ⟨fun z => absurd z (by omega), fun _ => ⟨fun z => absurd z (by omega), fun _ => ⟨by omega, fun _ => hP, fun z => absurd z s⟩⟩⟩, fun _ _ _ => rfl, ⟨f1, f2, f3, f4, f5⟩, Int.le_refl _, fun _ _ => rfl, fun _ h => h, fun _ => ?_⟩
      rcases f3 x hx1.1 (by omega) with z | z
      · exact absurd z s
      · exact z
theorem flood_62 {c : zI} (hc0 : 0 ≤ c0 ∧ c0 < ln * wd) {i p : Int} (hp : 0 ≤ p ∧ p < ln * wd) (hr : Rea ln wd k c0 p) (hf : p = c0 ∨ k p < 2) (hi : 0 ≤ i ∧ i < 256) : ∀ (n : Nat) (d sz : Int) (c : zI), d + n = 4 → 0 ≤ d → JE c r j ln wd k → FlI c ln wd k c0 sz → (∀ d', 0 ≤ d' → d' < d → nbr ln wd k p d' ≠ -1 → c 6 0 (nbr ln wd k p d') = 1) →
    ∃ c' sz', (∀ q, q ≠ 5 → q ≠ 6 → c' q = c q) ∧ FlI c' ln wd k c0 sz' ∧ sz ≤ sz' ∧ (∀ t, t < sz → c' 5 0 t = c 5 0 t) ∧ (∀ y, c 6 0 y = 1 → c' 6 0 y = 1) ∧ (∀ d', 0 ≤ d' → d' < 4 → nbr ln wd k p d' ≠ -1 → c' 6 0 (nbr ln wd k p d') = 1) ∧
      ∀ P : zI → Prop, (∀ u5 u6, WP mX2_flood 18 [some (.inr (some (4, 0))), some (.inr (some (30, j))), some (.inl c0), some (.inl sz'), some (.inl (i + 1)), u5, u6] [] c' r (zQ1v r P)) → WP mX2_flood 62 [some (.inr (some (4, 0))), some (.inr (some (30, j))), some (.inl c0), some (.inl sz), some (.inl i), some (.inl p), some (.inl d)] [] c r (zQ1v r P) := by
  intro n
  induction n with
  | zero =>
    intro d sz c hn h0 E F hd
    exact ⟨c, sz, fun _ _ _ => rfl, F, Int.le_refl _, fun _ _ => rfl, fun _ h => h, fun d' a b => hd d' a (by omega), fun P hP => GX2_flood_62 j c0 sz i p d E.2.1 ⟨fun _ => ⟨⟨by omega, by omega⟩, hP _ _⟩, fun z => absurd z (by omega)⟩⟩
  | succ n ih =>
    intro d sz c hn h0 E F hd
    obtain ⟨R, hj, hw, hl, e5, hk⟩ := E
    have mx := mul_bd (a := ln) (b := wd) (A := 16) (B := 16) (by omega) (by omega) (by omega) (by omega)
    have cn := cneighbour_run (hi := c) R hj (l := p) (d := d) (by omega) (by omega) (by omega)
    rw [(hk p hp.1 hp.2).2.2 d h0 (by omega)] at cn
    obtain ⟨x, ex⟩ : ∃ x, x = nbr ln wd k p d := ⟨_, rfl⟩
    rw [← ex] at cn
    have hx : x = -1 ∨ ((0 ≤ x ∧ x < ln * wd) ∧ Rea ln wd k c0 x) := by
      rcases nbr_bd (ln := ln) (wd := wd) (k := k) (i := p) (d := d) hl.1 hw.1 with z | z
      · rw [← ex] at z; exact Or.inl z
      · rw [← ex] at z
        exact Or.inr ⟨z, hr.next hf ⟨h0, by omega⟩ ex.symm (by omega)⟩
    obtain ⟨c1, s1, v1, v2, v3, v4, v5, v6, v7⟩ := visit_run R F (by omega) hx
    obtain ⟨c2, s2, a1, a2, a3, a4, a5, a6, a7⟩ := ih (d + 1) s1 c1 (by omega) (by omega) (JE.keep ⟨R, hj, hw, hl, e5, hk⟩ (fun q _ b d => v2 q b d)) v3 (fun d' b1 b2 b3 => by
      by_cases z : d' = d
      · rw [z, ← ex] at b3 ⊢
        exact v7 b3
      · exact v6 _ (hd d' b1 (by omega) b3))
    exact ⟨c2, s2, fun q a b => (a1 q a b).trans (v2 q a b), a2, by omega, fun t ht => (a4 t (by omega)).trans (v5 t ht), fun y hy => a5 y (v6 y hy), a6, fun P hP => GX2_flood_62 j c0 sz i p d hj ⟨fun z => absurd z (by omega), fun _ => cn _ (v1 _ ⟨⟨by omega, by omega⟩, a7 P hP⟩)⟩⟩
theorem flood_18 (hc0 : 0 ≤ c0 ∧ c0 < ln * wd) : ∀ (n : Nat) (i sz : Int) (c : zI), i + n = 256 → 0 ≤ i → i ≤ sz → JE c r j ln wd k → FlI c ln wd k c0 sz → (∀ t, 0 ≤ t → t < i → (c 5 0 t = c0 ∨ k (c 5 0 t) < 2) → ∀ d, 0 ≤ d → d < 4 → nbr ln wd k (c 5 0 t) d ≠ -1 → c 6 0 (nbr ln wd k (c 5 0 t) d) = 1) →
    ∃ c', (∀ q, q ≠ 5 → q ≠ 6 → c' q = c q) ∧ (∀ x, 0 ≤ x → x < ln * wd → (c' 6 0 x ≠ 0 ↔ Rea ln wd k c0 x)) ∧ ∀ (P : zI → Prop) u5 u6, P c' → WP mX2_flood 18 [some (.inr (some (4, 0))), some (.inr (some (30, j))), some (.inl c0), some (.inl sz), some (.inl i), u5, u6] [] c r (zQ1v r P) := by
  intro n
  induction n with
  | zero =>
    intro i sz c hn h0 h1 E F hp
    have bd := sz_bd c
    have f4 := F.2.2.2.1
    have es : i = sz := by omega
    refine ⟨c, fun _ _ _ => rfl, fun x x0 x1 => ⟨fun z => ?_, fun z => ?_⟩, fun P u5 u6 hP => GX2_flood_18 E.1 j c0 sz i u5 u6 E.2.1 ⟨fun _ => hP, fun z => absurd z (by omega)⟩⟩
    · obtain ⟨R, hj, hw, hl, e5, hk⟩ := E
      have mx := mul_bd (a := ln) (b := wd) (A := 16) (B := 16) (by omega) (by omega) (by omega) (by omega)
      obtain ⟨t, t0, t1, t2⟩ := F.2.1 x z x0 (by omega)
      rw [← t2]; exact (F.1 t t0 t1).2.2
    · have := Rea.least (X := fun q => 0 ≤ q ∧ q < ln * wd ∧ c 6 0 q = 1) ⟨hc0.1, hc0.2, F.2.2.2.2⟩ (fun p d xp xf d0 d1 hne => ?_) x z
      · rw [this.2.2]; decide
      · obtain ⟨R, hj, hw, hl, e5, hk⟩ := E
        have mx := mul_bd (a := ln) (b := wd) (A := 16) (B := 16) (by omega) (by omega) (by omega) (by omega)
        have nb : 0 ≤ nbr ln wd k p d ∧ nbr ln wd k p d < ln * wd := by
          rcases nbr_bd (ln := ln) (wd := wd) (k := k) (i := p) (d := d) hl.1 hw.1 with w | w
          · exact absurd w hne
          · exact w
        obtain ⟨t, t0, t1, t2⟩ := F.2.1 p (by rw [xp.2.2]; decide) xp.1 (by omega)
        refine ⟨nb.1, nb.2, ?_⟩
        have := hp t t0 (by omega)
        rw [t2] at this
        exact this xf d d0 d1 hne
  | succ n ih =>
    intro i sz c hn h0 h1 E F hp
    by_cases q : sz ≤ i
    · have es : i = sz := by omega
      refine ⟨c, fun _ _ _ => rfl, fun x x0 x1 => ⟨fun z => ?_, fun z => ?_⟩, fun P u5 u6 hP => GX2_flood_18 E.1 j c0 sz i u5 u6 E.2.1 ⟨fun _ => hP, fun z => absurd z (by omega)⟩⟩
      · obtain ⟨R, hj, hw, hl, e5, hk⟩ := E
        have mx := mul_bd (a := ln) (b := wd) (A := 16) (B := 16) (by omega) (by omega) (by omega) (by omega)
        obtain ⟨t, t0, t1, t2⟩ := F.2.1 x z x0 (by omega)
        rw [← t2]; exact (F.1 t t0 t1).2.2
      · have := Rea.least (X := fun q => 0 ≤ q ∧ q < ln * wd ∧ c 6 0 q = 1) ⟨hc0.1, hc0.2, F.2.2.2.2⟩ (fun p d xp xf d0 d1 hne => ?_) x z
        · rw [this.2.2]; decide
        · obtain ⟨R, hj, hw, hl, e5, hk⟩ := E
          have mx := mul_bd (a := ln) (b := wd) (A := 16) (B := 16) (by omega) (by omega) (by omega) (by omega)
          have nb : 0 ≤ nbr ln wd k p d ∧ nbr ln wd k p d < ln * wd := by
            rcases nbr_bd (ln := ln) (wd := wd) (k := k) (i := p) (d := d) hl.1 hw.1 with w | w
            · exact absurd w hne
            · exact w
          obtain ⟨t, t0, t1, t2⟩ := F.2.1 p (by rw [xp.2.2]; decide) xp.1 (by omega)
          refine ⟨nb.1, nb.2, ?_⟩
          have := hp t t0 (by omega)
          rw [t2] at this
          exact this xf d d0 d1 hne
    · obtain ⟨g1, g2, g3⟩ := F.1 i h0 (by omega)
      have i256 : 0 ≤ i ∧ i < 256 := by omega
      by_cases s : c 5 0 i = c0 ∨ k (c 5 0 i) < 2
      · obtain ⟨c1, s1, a1, a2, a3, a4, a5, a6, a7⟩ := flood_62 (r := r) (j := j) (c := c) hc0 g1 g3 s i256 4 0 sz c (by omega) (by omega) E F (fun d' x y => by omega)
        obtain ⟨c2, b1, b2, b3⟩ := ih (i + 1) s1 c1 (by omega) (by omega) (by omega) (E.keep (fun q _ b d => a1 q b d)) a2 (fun t t0 t1 tf d d0 d1 hne => by
          rw [a4 t (by omega)] at tf hne ⊢
          by_cases z : t = i
          · rw [z] at hne ⊢
            exact a6 d d0 d1 hne
          · exact a5 _ (hp t t0 (by omega) tf d d0 d1 hne))
        have run : ∀ (P : zI → Prop), P c2 → WP mX2_flood 62 [some (.inr (some (4, 0))), some (.inr (some (30, j))), some (.inl c0), some (.inl sz), some (.inl i), some (.inl (c 5 0 i)), some (.inl 0)] [] c r (zQ1v r P) := fun P hP => a7 P (fun u5 u6 => b3 P u5 u6 hP)
        refine ⟨c2, fun q a b => (b1 q a b).trans (a1 q a b), b2, fun P u5 u6 hP => GX2_flood_18 E.1 j c0 sz i u5 u6 E.2.1 ⟨fun z => absurd z q, fun _ => ⟨fun z => absurd z (by omega), fun _ => ⟨i256, fun _ => run P hP, fun z => isEnd_run E g1 0 (Or.inr ⟨rfl, s.resolve_left z⟩) _ ⟨fun _ => run P hP, fun z => absurd rfl z⟩⟩⟩⟩⟩
      · obtain ⟨c2, b1, b2, b3⟩ := ih (i + 1) sz c (by omega) (by omega) (by omega) E F (fun t t0 t1 tf d d0 d1 hne => by
          by_cases z : t = i
          · rw [z] at tf; exact absurd tf s
          · exact hp t t0 (by omega) tf d d0 d1 hne)
        have s1 : c 5 0 i ≠ c0 := fun z => s (Or.inl z)
        have s2 : ¬ k (c 5 0 i) < 2 := fun z => s (Or.inr z)
        refine ⟨c2, b1, b2, fun P u5 u6 hP => GX2_flood_18 E.1 j c0 sz i u5 u6 E.2.1 ⟨fun z => absurd z q, fun _ => ⟨fun z => absurd z (by omega), fun _ => ⟨i256, fun z => absurd z s1, fun _ => isEnd_run E g1 1 (Or.inl ⟨rfl, by omega⟩) _ ⟨fun z => absurd z (by decide), fun _ => ⟨⟨by omega, by omega⟩, b3 P _ _ hP⟩⟩⟩⟩⟩⟩
end ZF
