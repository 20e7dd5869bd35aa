/-- the reference's ground while it judges -/
def AE (m : zI) (ln wd : Int) (k : Int → Int) : Prop := m 37 0 13 = ln ∧ m 37 0 14 = wd ∧ (1 ≤ wd ∧ wd ≤ 16) ∧ (1 ≤ ln ∧ ln ≤ 16) ∧ (∀ y u, 0 ≤ y → y < ln → 0 ≤ u → u < wd → m 39 0 (256 + 16 * y + u) = k (y * wd + u)) ∧ ∀ i, 0 ≤ i → i < ln * wd → 0 ≤ k i ∧ k i ≤ 3
def apE (m m' : zI) : Prop := ∀ q, q ≠ 43 → q ≠ 44 → m' q = m q
theorem apE.trans {a b c : zI} (h : apE a b) (h' : apE b c) : apE a c := fun q x y => (h' q x y).trans (h q x y)
section ZA
variable {ln wd c0 : Int} {k : Int → Int}
theorem AE.keep {m m' : zI} (h : AE m ln wd k) (e : apE m m') : AE m' ln wd k := by
  unfold AE at h ⊢
  rw [e 37 (by decide) (by decide), e 39 (by decide) (by decide)]
  exact h
theorem readAt_run {m : zI} {hr : zR} (hM : RSm hr) (E : AE m ln wd k) {y u : Int} (z : Int) (hz : (z = k (y * wd + u) ∧ 0 ≤ y ∧ y < ln ∧ 0 ≤ u ∧ u < wd) ∨ (z = 0 ∧ ¬ (0 ≤ y ∧ y < ln ∧ 0 ≤ u ∧ u < wd))) : R0i mX12_readAt [.inr (some (37, 0)), .inl y, .inl u] m hr z := by
  intro P hP
  obtain ⟨e13, e14, hw, hl, hk, -⟩ := E
  have nz : ¬ (0 ≤ y ∧ y < ln ∧ 0 ≤ u ∧ u < wd) → P 0 := fun h => by
    rcases hz with w | w
    · exact absurd w.2 h
    · rw [w.1] at hP; exact hP
  refine GX12_readAt hM y u ⟨fun q => nz (by omega), fun _ => ⟨fun q => nz (by omega), fun _ => ⟨fun q => nz (by omega), fun _ => ⟨fun q => ⟨⟨by omega, by omega⟩, ⟨by omega, by omega⟩, ⟨by omega, by omega⟩, by omega, ?_⟩, fun q => nz (by omega)⟩⟩⟩⟩
  rw [hk y u (by omega) (by omega) (by omega) (by omega)]
  rcases hz with w | w
  · rw [w.1] at hP; exact hP
  · exact absurd ⟨by omega, by omega, by omega, by omega⟩ w.2
def smM (m : zI) (ln wd : Int) : Int := smI (fun x => if 0 ≤ x ∧ x < ln * wd ∧ m 43 0 x ≠ 0 then 1 else 0) 256
theorem smM_bd (m : zI) (ln wd : Int) : 0 ≤ smM m ln wd ∧ smM m ln wd ≤ 256 := by
  have := smI_01 (f := fun x => if 0 ≤ x ∧ x < ln * wd ∧ m 43 0 x ≠ 0 then (1 : Int) else 0) (fun i => by split <;> simp) 256
  unfold smM
  omega
/-- the search: what is met, the stack, and one that is at work (h) -/
def DI (m : zI) (ln wd : Int) (k : Int → Int) (c0 top : Int) (h : Int) : Prop := (∀ t, 0 ≤ t → t < top → (0 ≤ m 44 0 t ∧ m 44 0 t < ln * wd) ∧ m 43 0 (m 44 0 t) = 1) ∧ (∀ x, 0 ≤ x → x < ln * wd → m 43 0 x ≠ 0 → Rea ln wd k c0 x) ∧ (∀ x, 0 ≤ x → x < ln * wd → m 43 0 x = 0 ∨ m 43 0 x = 1) ∧ m 43 0 c0 = 1 ∧ 0 ≤ top ∧
  (∀ x, 0 ≤ x → x < ln * wd → x ≠ h → m 43 0 x = 1 → (∃ t, 0 ≤ t ∧ t < top ∧ m 44 0 t = x) ∨ ((x = c0 ∨ k x < 2) → ∀ d, 0 ≤ d → d < 4 → nbr ln wd k x d ≠ -1 → m 43 0 (nbr ln wd k x d) = 1))
theorem dfs_133 (hc0 : 0 ≤ c0 ∧ c0 < ln * wd) {y x : Int} (hy : 0 ≤ y ∧ y < ln) (hx : 0 ≤ x ∧ x < wd) (hr : Rea ln wd k c0 (y * wd + x)) (hf : y * wd + x = c0 ∨ k (y * wd + x) < 2) (a1 : Int) : ∀ (n : Nat) (d top : Int) (m : zI), d + n = 4 → 0 ≤ d → AE m ln wd k → DI m ln wd k c0 top (y * wd + x) → top + 1 ≤ smM m ln wd → (∀ d', 0 ≤ d' → d' < d → nbr ln wd k (y * wd + x) d' ≠ -1 → m 43 0 (nbr ln wd k (y * wd + x) d') = 1) →
    ∃ m' top', apE m m' ∧ DI m' ln wd k c0 top' (-1) ∧ top' ≤ smM m' ln wd ∧ top' + 2 * (256 - smM m' ln wd) ≤ top + 2 * (256 - smM m ln wd) ∧ smM m ln wd ≤ smM m' ln wd ∧
      ∀ hr, RSm hr → ∀ (P : Int → zI → Prop) u8 u9, (∀ u4 u5 u6 u7 u8 u9, WP mX12_apart 76 [some (.inr (some (37, 0))), some (.inl a1), some (.inl c0), some (.inl top'), u4, u5, u6, u7, u8, u9] [] m' hr (zQ1i hr P)) → WP mX12_apart 133 [some (.inr (some (37, 0))), some (.inl a1), some (.inl c0), some (.inl top), some (.inl (y * wd + x)), some (.inl y), some (.inl x), some (.inl d), u8, u9] [] m hr (zQ1i hr P) := by
  have g := gc_in hy.1 hy.2 hx.1 hx.2
  intro n
  induction n with
  | zero =>
    intro d top m hn h0 E D hS hd
    obtain ⟨d1, d2, d3, d4, d5, d6⟩ := D
    refine ⟨m, top, fun _ _ _ => rfl, ⟨d1, d2, d3, d4, d5, fun z z0 z1 _ z3 => ?_⟩, by omega, by omega, by omega, fun hr hM P u8 u9 hP => GX12_apart_133 a1 c0 top _ y x d u8 u9 ⟨fun _ => hP _ _ _ _ _ _, fun z => absurd z (by omega)⟩⟩
    by_cases w : z = y * wd + x
    · rw [w]
      exact Or.inr (fun _ d' b1 b2 b3 => hd d' b1 (by omega) b3)
    · exact d6 z z0 z1 w z3
  | succ n ih =>
    intro d top m hn h0 E D hS hd
    have E0 := E
    obtain ⟨e13, e14, hw, hl, hk, hkb⟩ := E
    have mx := mul_bd (a := ln) (b := wd) (A := 16) (B := 16) (by omega) (by omega) (by omega) (by omega)
    have sb := smM_bd m ln wd
    -- the way to the read
    have pre : ∀ hr, RSm hr → ∀ (P : Int → zI → Prop) u8 u9, WP mX12_apart 187 [some (.inr (some (37, 0))), some (.inl a1), some (.inl c0), some (.inl top), some (.inl (y * wd + x)), some (.inl y), some (.inl x), some (.inl d), some (.inl (y + dY d)), u9] [.inl (dX d), .inl x] m hr (zQ1i hr P) → WP mX12_apart 133 [some (.inr (some (37, 0))), some (.inl a1), some (.inl c0), some (.inl top), some (.inl (y * wd + x)), some (.inl y), some (.inl x), some (.inl d), u8, u9] [] m hr (zQ1i hr P) := by
      intro hr hM P u8 u9 K
      have s161 : WP mX12_apart 161 [some (.inr (some (37, 0))), some (.inl a1), some (.inl c0), some (.inl top), some (.inl (y * wd + x)), some (.inl y), some (.inl x), some (.inl d), u8, u9] [.inl (dY d), .inl y] m hr (zQ1i hr P) := by
        have hb := dYX d (by omega)
        refine GX12_apart_161 a1 c0 top _ y x d u8 u9 (dY d) y ⟨⟨by omega, by omega⟩, fun z1 => ⟨fun z3 => ?_, fun z3 => ?_⟩, fun z1 => ?_⟩
        · have e : dX d = 0 := by omega
          rw [e] at K; exact K
        · have e : dX d = -1 := by omega
          rw [e] at K; exact K
        · have e : dX d = 1 := by omega
          rw [e] at K; exact K
      have hb := dYX d (by omega)
      refine GX12_apart_133 a1 c0 top _ y x d u8 u9 ⟨fun z => absurd z (by omega), fun _ => ⟨fun z0 => ⟨fun z2 => ?_, fun z2 => ?_⟩, fun z0 => ?_⟩⟩
      · have e : dY d = 0 := by omega
        rw [e] at s161; exact s161
      · have e : dY d = 1 := by omega
        rw [e] at s161; exact s161
      · have e : dY d = -1 := by omega
        rw [e] at s161; exact s161
    have hb := dYX d (by omega)
    have zx : zInR (x + dX d) := ⟨by omega, by omega⟩
    have zd : zInR (d + 1) := ⟨by omega, by omega⟩
    have nb := nbr_at (ln := ln) (y := y) (d := d) k hx.1 hx.2
    by_cases q : 0 ≤ y + dY d ∧ y + dY d < ln ∧ 0 ≤ x + dX d ∧ x + dX d < wd ∧ k ((y + dY d) * wd + (x + dX d)) ≠ 0
    · rw [if_neg (by omega)] at nb
      obtain ⟨v, ev⟩ : ∃ v, v = (y + dY d) * wd + (x + dX d) := ⟨_, rfl⟩
      have g' := gc_in q.1 q.2.1 q.2.2.1 q.2.2.2.1
      rw [← ev] at nb g' q
      have hrv : Rea ln wd k c0 v := hr.next hf ⟨h0, by omega⟩ nb (by omega)
      have rd : ∀ hr, RSm hr → R0i mX12_readAt [.inr (some (37, 0)), .inl (y + dY d), .inl (x + dX d)] m hr (k v) := fun hr hM => readAt_run hM E0 _ (Or.inl ⟨by rw [ev], q.1, q.2.1, q.2.2.1, q.2.2.2.1⟩)
      have zw : zInR ((y + dY d) * wd) := ⟨by omega, by omega⟩
      have zv : zInR ((y + dY d) * wd + (x + dX d)) := by rw [← ev]; exact ⟨by omega, by omega⟩
      have zr : 0 ≤ (y + dY d) * wd + (x + dX d) ∧ (y + dY d) * wd + (x + dX d) < 256 := by rw [← ev]; omega
      by_cases s : m 43 0 v = 0
      · obtain ⟨d1, d2, d3, d4, d5, d6⟩ := D
        have hole : smM m ln wd + 1 ≤ 256 := smI_hole (f := fun x => if 0 ≤ x ∧ x < ln * wd ∧ m 43 0 x ≠ 0 then (1 : Int) else 0) (fun i => by split <;> simp) g'.1 256 (by omega) (by rw [if_neg (fun z => z.2.2 s)])
        obtain ⟨m1, em1⟩ : ∃ m1, m1 = zup (zup m 43 0 v 1) 44 0 top v := ⟨_, rfl⟩
        have e43 : ∀ z, m1 43 0 z = if z = v then 1 else m 43 0 z := fun z => by rw [em1, zup_kf _ _ _ _ (by decide), zup_at]
        have e44 : ∀ t, m1 44 0 t = if t = top then v else m 44 0 t := fun t => by rw [em1, zup_at, zup_kf _ _ _ _ (by decide)]
        have ap1 : apE m m1 := fun z z1 z2 => by rw [em1, zup_kf _ _ _ _ z2, zup_kf _ _ _ _ z1]
        have up : ∀ z, m 43 0 z = 1 → m1 43 0 z = 1 := fun z hz => by
          rw [e43]
          split
          · rfl
          · exact hz
        have S1 : smM m1 ln wd = smM m ln wd + 1 := smI_add1 (i := v) g'.1 (by omega) (fun z hz => by rw [e43, if_neg hz]) (by rw [e43, if_pos rfl, if_pos ⟨g'.1, g'.2, by decide⟩, if_neg (fun z => z.2.2 s)]; rfl)
        have D1 : DI m1 ln wd k c0 (top + 1) (y * wd + x) := by
          refine ⟨fun t t0 t1 => ?_, fun z z0 z1 z2 => ?_, fun z z0 z1 => ?_, up c0 d4, by omega, fun z z0 z1 z2 z3 => ?_⟩
          · rw [e44]
            by_cases w : t = top
            · rw [if_pos w, e43, if_pos rfl]; exact ⟨g', rfl⟩
            · rw [if_neg w]
              obtain ⟨w1, w2⟩ := d1 t t0 (by omega)
              exact ⟨w1, up _ w2⟩
          · rw [e43] at z2
            by_cases w : z = v
            · rw [w]; exact hrv
            · rw [if_neg w] at z2; exact d2 z z0 z1 z2
          · rw [e43]
            split
            · exact Or.inr rfl
            · exact d3 z z0 z1
          · by_cases w : z = v
            · exact Or.inl ⟨top, by omega, by omega, by rw [e44, if_pos rfl, w]⟩
            · rw [e43, if_neg w] at z3
              rcases d6 z z0 z1 z2 z3 with ⟨t, t0, t1, t2⟩ | pr
              · exact Or.inl ⟨t, t0, by omega, by rw [e44, if_neg (by omega)]; exact t2⟩
              · exact Or.inr (fun a b c e f => up _ (pr a b c e f))
        obtain ⟨m', top', b1, b2, b3, b4, b5, b6⟩ := ih (d + 1) (top + 1) m1 (by omega) (by omega) (E0.keep ap1) D1 (by omega) (fun d' c1 c2 c3 => by
          by_cases w : d' = d
          · rw [w, nb, e43, if_pos rfl]
          · exact up _ (hd d' c1 (by omega) c3))
        refine ⟨m', top', ap1.trans b1, b2, b3, by omega, by omega, fun hr hM P u8 u9 hP => pre hr hM P u8 u9 (GX12_apart_187 hM a1 c0 top _ y x d _ u9 (dX d) x ⟨zx, rd hr hM _ ⟨fun z => absurd z q.2.2.2.2, fun _ => ?_⟩⟩)⟩
        have K := b6 hr hM P (some (.inl (y + dY d))) (some (.inl (x + dX d))) hP
        rw [em1] at K
        rw [e14, ← ev]
        rw [← ev] at zr zv
        exact ⟨zw, zv, zr, fun _ => ⟨zw, zv, zr, zw, zv, by omega, ⟨by omega, by omega⟩, zd, K⟩, fun z => absurd s z⟩
      · obtain ⟨m', top', b1, b2, b3, b4, b5, b6⟩ := ih (d + 1) top m (by omega) (by omega) E0 D hS (fun d' c1 c2 c3 => by
          by_cases w : d' = d
          · rw [w, nb]
            rcases D.2.2.1 v g'.1 g'.2 with z | z
            · exact absurd z s
            · exact z
          · exact hd d' c1 (by omega) c3)
        refine ⟨m', top', b1, b2, b3, b4, b5, fun hr hM P u8 u9 hP => pre hr hM P u8 u9 (GX12_apart_187 hM a1 c0 top _ y x d _ u9 (dX d) x ⟨zx, rd hr hM _ ⟨fun z => absurd z q.2.2.2.2, fun _ => ?_⟩⟩)⟩
        have K := b6 hr hM P (some (.inl (y + dY d))) (some (.inl (x + dX d))) hP
        rw [e14, ← ev]
        rw [← ev] at zr zv
        exact ⟨zw, zv, zr, fun z => absurd z s, fun _ => ⟨zd, K⟩⟩
    · rw [if_pos (by omega)] at nb
      have rd : ∀ hr, RSm hr → R0i mX12_readAt [.inr (some (37, 0)), .inl (y + dY d), .inl (x + dX d)] m hr 0 := fun hr hM => readAt_run hM E0 0 (by
        by_cases w : 0 ≤ y + dY d ∧ y + dY d < ln ∧ 0 ≤ x + dX d ∧ x + dX d < wd
        · exact Or.inl ⟨by omega, w⟩
        · exact Or.inr ⟨rfl, w⟩)
      obtain ⟨m', top', b1, b2, b3, b4, b5, b6⟩ := ih (d + 1) top m (by omega) (by omega) E0 D hS (fun d' c1 c2 c3 => by
        by_cases w : d' = d
        · rw [w] at c3; exact absurd nb c3
        · exact hd d' c1 (by omega) c3)
      exact ⟨m', top', b1, b2, b3, b4, b5, fun hr hM P u8 u9 hP => pre hr hM P u8 u9 (GX12_apart_187 hM a1 c0 top _ y x d _ u9 (dX d) x ⟨zx, rd hr hM _ ⟨fun _ => ⟨zd, b6 hr hM P _ _ hP⟩, fun z => absurd rfl z⟩⟩)⟩
theorem dfs_76 (hc0 : 0 ≤ c0 ∧ c0 < ln * wd) (a1 : Int) : ∀ (n : Nat) (top : Int) (m : zI), top + 2 * (256 - smM m ln wd) ≤ n → AE m ln wd k → DI m ln wd k c0 top (-1) → top ≤ smM m ln wd →
    ∃ m', apE m m' ∧ (∀ x, 0 ≤ x → x < ln * wd → (m' 43 0 x ≠ 0 ↔ Rea ln wd k c0 x)) ∧ ∀ hr, RSm hr → ∀ (P : Int → zI → Prop) u4 u5 u6 u7 u8 u9, (∀ a3 u5 u6 u7 u8 u9, WP mX12_apart 271 [some (.inr (some (37, 0))), some (.inl a1), some (.inl c0), some (.inl a3), some (.inl (c0 + 1)), u5, u6, u7, u8, u9] [] m' hr (zQ1i hr P)) → WP mX12_apart 76 [some (.inr (some (37, 0))), some (.inl a1), some (.inl c0), some (.inl top), u4, u5, u6, u7, u8, u9] [] m hr (zQ1i hr P) := by
  have fin : ∀ (m : zI), AE m ln wd k → DI m ln wd k c0 0 (-1) → ∃ m', apE m m' ∧ (∀ x, 0 ≤ x → x < ln * wd → (m' 43 0 x ≠ 0 ↔ Rea ln wd k c0 x)) ∧ ∀ hr, RSm hr → ∀ (P : Int → zI → Prop) u4 u5 u6 u7 u8 u9, (∀ a3 u5 u6 u7 u8 u9, WP mX12_apart 271 [some (.inr (some (37, 0))), some (.inl a1), some (.inl c0), some (.inl a3), some (.inl (c0 + 1)), u5, u6, u7, u8, u9] [] m' hr (zQ1i hr P)) → WP mX12_apart 76 [some (.inr (some (37, 0))), some (.inl a1), some (.inl c0), some (.inl 0), u4, u5, u6, u7, u8, u9] [] m hr (zQ1i hr P) := by
    intro m E D
    obtain ⟨e13, e14, hw, hl, hk, hkb⟩ := E
    obtain ⟨d1, d2, d3, d4, d5, d6⟩ := D
    have mx := mul_bd (a := ln) (b := wd) (A := 16) (B := 16) (by omega) (by omega) (by omega) (by omega)
    refine ⟨m, fun _ _ _ => rfl, fun x x0 x1 => ⟨fun z => d2 x x0 x1 z, fun z => ?_⟩, fun hr hM P u4 u5 u6 u7 u8 u9 hP => GX12_apart_76 hM a1 c0 0 u4 u5 u6 u7 u8 u9 ⟨fun _ => ⟨⟨by omega, by omega⟩, hP _ _ _ _ _ _⟩, fun z => absurd z (by omega)⟩⟩
    have := Rea.least (X := fun q => 0 ≤ q ∧ q < ln * wd ∧ m 43 0 q = 1) ⟨hc0.1, hc0.2, d4⟩ (fun p d xp xf g0 g1 hne => ?_) x z
    · rw [this.2.2]; decide
    · have nb : 0 ≤ nbr ln wd k p d ∧ nbr ln wd k p d < ln * wd := by
        rcases nbr_bd (ln := ln) (wd := wd) (k := k) (i := p) (d := d) hl.1 hw.1 with w | w
        · exact absurd w hne
        · exact w
      rcases d6 p xp.1 xp.2.1 (by omega) xp.2.2 with ⟨t, t0, t1, -⟩ | pr
      · omega
      · exact ⟨nb.1, nb.2, pr xf d g0 g1 hne⟩
  intro n
  induction n with
  | zero =>
    intro top m hn E D hS
    have sb := smM_bd m ln wd
    have d5 := D.2.2.2.2.1
    have e : top = 0 := by omega
    subst e
    exact fin m E D
  | succ n ih =>
    intro top m hn E D hS
    have sb := smM_bd m ln wd
    by_cases q0 : top = 0
    · subst q0
      exact fin m E D
    · have E0 := E
      obtain ⟨e13, e14, hw, hl, hk, hkb⟩ := E
      have mx := mul_bd (a := ln) (b := wd) (A := 16) (B := 16) (by omega) (by omega) (by omega) (by omega)
      obtain ⟨d1, d2, d3, d4, d5, d6⟩ := D
      have et : top + (-1) = top - 1 := by omega
      obtain ⟨h1, h2⟩ := d1 (top - 1) (by omega) (by omega)
      obtain ⟨y, x, y0, y1, x0, x1, ec⟩ := gc_of hw.1 h1.1 h1.2
      have gd := gc_div (wd := wd) (x := x) y x0 x1
      have hr0 : Rea ln wd k c0 (y * wd + x) := by rw [← ec]; exact d2 _ h1.1 h1.2 (by rw [h2]; decide)
      have Dp : DI m ln wd k c0 (top - 1) (y * wd + x) := ⟨fun t t0 t1 => d1 t t0 (by omega), d2, d3, d4, by omega, fun z z0 z1 z2 z3 => by
        rcases d6 z z0 z1 (by omega) z3 with ⟨t, t0, t1, t2⟩ | pr
        · by_cases w : t = top - 1
          · rw [w, ec] at t2; exact absurd t2.symm z2
          · exact Or.inl ⟨t, t0, by omega, t2⟩
        · exact Or.inr pr⟩
      have rd : ∀ hr, RSm hr → R0i mX12_readAt [.inr (some (37, 0)), .inl y, .inl x] m hr (k (y * wd + x)) := fun hr hM => readAt_run hM E0 _ (Or.inl ⟨rfl, y0, y1, x0, x1⟩)
      by_cases qf : y * wd + x = c0 ∨ k (y * wd + x) < 2
      · obtain ⟨m1, top1, b1, b2, b3, b4, b5, b6⟩ := dfs_133 hc0 ⟨y0, y1⟩ ⟨x0, x1⟩ hr0 qf a1 4 0 (top - 1) m (by omega) (by omega) E0 Dp (by omega) (fun d' c1 c2 => by omega)
        obtain ⟨m2, f1, f2, f3⟩ := ih top1 m1 (by omega) (E0.keep b1) b2 b3
        refine ⟨m2, b1.trans f1, f2, fun hr hM P u4 u5 u6 u7 u8 u9 hP => GX12_apart_76 hM a1 c0 top u4 u5 u6 u7 u8 u9 ⟨fun z => absurd z (by omega), fun _ => ?_⟩⟩
        rw [et, ec, e14, gd.1, gd.2]
        have K := b6 hr hM P u8 u9 (fun u4 u5 u6 u7 u8 u9 => f3 hr hM P u4 u5 u6 u7 u8 u9 hP)
        exact ⟨⟨by omega, by omega⟩, by omega, ⟨by omega, by omega⟩, ⟨by omega, by omega⟩, fun _ => K, fun z => rd hr hM _ ⟨fun _ => K, fun w => absurd (qf.resolve_left z) (by omega)⟩⟩
      · have ne : y * wd + x ≠ c0 := fun z => qf (Or.inl z)
        have ge : ¬ k (y * wd + x) < 2 := fun z => qf (Or.inr z)
        obtain ⟨m2, f1, f2, f3⟩ := ih (top - 1) m (by omega) E0 ⟨Dp.1, d2, d3, d4, by omega, fun z z0 z1 _ z3 => by
          by_cases w : z = y * wd + x
          · rw [w]; exact Or.inr (fun v => absurd v qf)
          · exact Dp.2.2.2.2.2 z z0 z1 w z3⟩ (by omega)
        refine ⟨m2, f1, f2, fun hr hM P u4 u5 u6 u7 u8 u9 hP => GX12_apart_76 hM a1 c0 top u4 u5 u6 u7 u8 u9 ⟨fun z => absurd z (by omega), fun _ => ?_⟩⟩
        rw [et, ec, e14, gd.1, gd.2]
        exact ⟨⟨by omega, by omega⟩, by omega, ⟨by omega, by omega⟩, ⟨by omega, by omega⟩, fun z => absurd z ne, fun _ => rd hr hM _ ⟨fun w => absurd w ge, fun _ => f3 hr hM P _ _ _ _ _ _ hP⟩⟩
end ZA
