section ZP
variable {ln wd vn v a b t0 : Int} {k pk tr tb te : Int → Int}
theorem finds_clear {r : zR} (hM : RSm r) (a5 : Int) : ∀ (n : Nat) (i : Int) (hi : zI), i + n = 231168 → 0 ≤ i → ∃ hi', (fdE hi hi') ∧ (∀ z, hi' 57 0 z = if i ≤ z ∧ z < 231168 then 0 else hi 57 0 z) ∧ (∀ z, hi' 58 0 z = if i ≤ z ∧ z < 231168 then 0 else hi 58 0 z) ∧
    ∀ r, RSm r → ∀ P : Int → zI → Prop, ((0 ≤ v ∧ v < 256) ∧ zInR (3 * hi' 42 0 v) ∧ (0 ≤ 3 * hi' 42 0 v ∧ 3 * hi' 42 0 v < 231168) ∧ WP mX12_finds 61 [some (.inr (some (37, 0))), some (.inl v), some (.inl a), some (.inl b), some (.inl t0), some (.inl a5), some (.inl 0), none, none, none, none, none] [] (zup hi' 57 0 (3 * hi' 42 0 v) 1) r (zQ1i r P)) →
      WP mX12_finds 15 [some (.inr (some (37, 0))), some (.inl v), some (.inl a), some (.inl b), some (.inl t0), some (.inl a5), some (.inl i), none, none, none, none, none] [] hi r (zQ1i r P) := by
  intro n
  induction n with
  | zero =>
    intro i hi hn h0
    refine ⟨hi, fdE.refl hi, fun z => ?_, fun z => ?_, fun r hM P hP => GX12_finds_15 hM v a b t0 a5 i ⟨fun _ => hP, fun q => absurd q (by omega)⟩⟩
    · rw [if_neg (by omega)]
    · rw [if_neg (by omega)]
  | succ n ih =>
    intro i hi hn h0
    obtain ⟨hi', e1, e2, e3, e4⟩ := ih (i + 1) (zup (zup hi 57 0 i 0) 58 0 i 0) (by omega) (by omega)
    refine ⟨hi', (((fdE.refl hi).z57 i 0).z58 i 0).trans e1, fun z => ?_, fun z => ?_, fun r hM P hP => GX12_finds_15 hM v a b t0 a5 i ⟨fun q => absurd q (by omega), fun _ => ⟨by omega, by omega, ⟨by omega, by omega⟩, e4 r hM P hP⟩⟩⟩
    · rw [e2 z, zup_kf _ _ _ _ (show (57 : Nat) ≠ 58 by decide), zup_at]
      by_cases q : z = i
      · rw [if_neg (by omega), if_pos q, if_pos (by omega)]
      · rw [if_neg q]
        by_cases q' : i ≤ z ∧ z < 231168
        · rw [if_pos (by omega), if_pos q']
        · rw [if_neg (by omega), if_neg q']
    · rw [e3 z, zup_at, zup_kf _ _ _ _ (show (58 : Nat) ≠ 57 by decide)]
      by_cases q : z = i
      · rw [if_neg (by omega), if_pos q, if_pos (by omega)]
      · rw [if_neg q]
        by_cases q' : i ≤ z ∧ z < 231168
        · rw [if_pos (by omega), if_pos q']
        · rw [if_neg (by omega), if_neg q']
/-- a way from p by step s to q -/
def wy (ln wd vn : Int) (k pk tr tb te : Int → Int) (v a b t p s q : Int) : Prop := ldTo ln wd k a b (pk v) p s = q ∧ q ≠ -1 ∧ clr vn pk tr tb te v t (p / 3) (q / 3)
theorem stp_wy {t p q : Int} : stp ln wd vn k pk tr tb te v a b t p q ↔ ∃ s, 0 ≤ s ∧ s < 5 ∧ wy ln wd vn k pk tr tb te v a b t p s q := Iff.rfl
/-- layer n + 1 while it is filled -/
def FI (n : Nat) (m hi : zI) (B : Int → Prop) (a7 : Int) : Prop := (∀ q, q ≠ 57 → hi q = m q) ∧ (∀ i, (i < 768 * ((n : Int) + 1) ∨ 768 * ((n : Int) + 2) ≤ i) → hi 57 0 i = m 57 0 i) ∧ (∀ q, 0 ≤ q → q < 768 → (hi 57 0 (768 * ((n : Int) + 1) + q) ≠ 0 ↔ B q)) ∧ ((a7 = 0 ∧ ∀ q, ¬ B q) ∨ (a7 = 1 ∧ ∃ q, B q))
theorem FI.cong {n : Nat} {m hi : zI} {B B' : Int → Prop} {a7 : Int} (h : FI n m hi B a7) (e : ∀ q, B q ↔ B' q) : FI n m hi B' a7 := by
  obtain ⟨h1, h2, h3, h4⟩ := h
  refine ⟨h1, h2, fun q a b => (h3 q a b).trans (e q), ?_⟩
  rcases h4 with ⟨x, y⟩ | ⟨x, q, y⟩
  · exact Or.inl ⟨x, fun q z => y q ((e q).mpr z)⟩
  · exact Or.inr ⟨x, q, (e q).mp y⟩
theorem FI.add {n : Nat} {m hi : zI} {B : Int → Prop} {a7 q0 : Int} (h : FI n m hi B a7) (hq : 0 ≤ q0 ∧ q0 < 768) : FI n m (zup hi 57 0 (768 * ((n : Int) + 1) + q0) 1) (fun q => B q ∨ q = q0) 1 := by
  obtain ⟨h1, h2, h3, h4⟩ := h
  refine ⟨fun q z => (zup_kf _ _ _ _ z).trans (h1 q z), fun i z => ?_, fun q x y => ?_, Or.inr ⟨rfl, q0, Or.inr rfl⟩⟩
  · rw [zup_at, if_neg (by omega)]
    exact h2 i z
  · rw [zup_at]
    by_cases z : q = q0
    · rw [if_pos (by omega)]
      exact ⟨fun _ => Or.inr z, fun _ => by decide⟩
    · rw [if_neg (by omega), h3 q x y]
      exact ⟨fun w => Or.inl w, fun w => w.resolve_right z⟩
theorem finds_133 {m : zI} (E : ME m ln wd vn v a b t0 k pk tr tb te) {n : Nat} (hn : n < 300) {p : Int} (hp : 0 ≤ p ∧ p < 3 * (ln * wd)) (a5 : Int) {A : Int → Prop} : ∀ (j : Nat) (s : Int) (hi : zI) (a7 : Int), s + j = 5 → 0 ≤ s → FI n m hi (fun q => A q ∨ ∃ s', 0 ≤ s' ∧ s' < s ∧ wy ln wd vn k pk tr tb te v a b (t0 + n) p s' q) a7 →
    ∃ hi' a7', FI n m hi' (fun q => A q ∨ ∃ s', 0 ≤ s' ∧ s' < 5 ∧ wy ln wd vn k pk tr tb te v a b (t0 + n) p s' q) a7' ∧
      ∀ r, RSm r → ∀ (P : Int → zI → Prop) u10, (∀ u9 u10, WP mX12_finds 94 [some (.inr (some (37, 0))), some (.inl v), some (.inl a), some (.inl b), some (.inl t0), some (.inl a5), some (.inl n), some (.inl a7'), some (.inl (p + 1)), u9, u10, none] [] hi' r (zQ1i r P)) →
        WP mX12_finds 133 [some (.inr (some (37, 0))), some (.inl v), some (.inl a), some (.inl b), some (.inl t0), some (.inl a5), some (.inl n), some (.inl a7), some (.inl p), some (.inl s), u10, none] [] hi r (zQ1i r P) := by
  have Y := E.2.2.2.2.2.1
  have y2 := yd_256 Y
  have ht0 := E.2.2.2.2.1
  intro j
  induction j with
  | zero =>
    intro s hi a7 hj h0 F
    have e : s = 5 := by omega
    subst e
    exact ⟨hi, a7, F, fun r hM P u10 hP => GX12_finds_133 hM v a b t0 a5 n a7 p 5 u10 ⟨fun _ => ⟨⟨by omega, by omega⟩, hP _ _⟩, fun q => absurd q (by omega)⟩⟩
  | succ j ih =>
    intro s hi a7 hj h0 F
    have E1 : ME hi ln wd vn v a b t0 k pk tr tb te := E.keep (fun q x _ => F.1 q x)
    have zs : zInR (s + 1) := ⟨by omega, by omega⟩
    have bd := ldTo_bd (p := p) (s := s) Y hp.1 (by omega) (by omega)
    obtain ⟨q, eq⟩ : ∃ q, q = ldTo ln wd k a b (pk v) p s := ⟨_, rfl⟩
    rw [← eq] at bd
    have ld : ∀ r, RSm r → R0i mX12_leadsTo [.inr (some (37, 0)), .inl v, .inl a, .inl b, .inl p, .inl s] hi r q := fun r hM => by
      rw [eq]; exact leadsTo_run hM E1 (by omega) (by omega)
    by_cases q1 : q = -1
    · obtain ⟨hi', a7', G, w⟩ := ih (s + 1) hi a7 (by omega) (by omega) (F.cong (fun z => by
        constructor
        · rintro (y | ⟨s', y1, y2, y3⟩)
          · exact Or.inl y
          · exact Or.inr ⟨s', y1, by omega, y3⟩
        · rintro (y | ⟨s', y1, y2, y3⟩)
          · exact Or.inl y
          · by_cases w : s' = s
            · exfalso
              rw [w] at y3
              exact y3.2.1 (y3.1.symm.trans (eq.symm.trans q1))
            · exact Or.inr ⟨s', y1, by omega, y3⟩))
      exact ⟨hi', a7', G, fun r hM P u10 hP => GX12_finds_133 hM v a b t0 a5 n a7 p s u10 ⟨fun z => absurd z (by omega), fun _ => ld r hM _ ⟨fun _ => ⟨zs, w r hM P _ hP⟩, fun z => absurd q1 z⟩⟩⟩
    · by_cases q2 : clr vn pk tr tb te v (t0 + n) (p / 3) (q / 3)
      · obtain ⟨hi', a7', G, w⟩ := ih (s + 1) (zup hi 57 0 (768 * ((n : Int) + 1) + q) 1) 1 (by omega) (by omega) ((F.add (q0 := q) (by omega)).cong (fun z => by
          constructor
          · rintro ((y | ⟨s', y1, y2, y3⟩) | y)
            · exact Or.inl y
            · exact Or.inr ⟨s', y1, by omega, y3⟩
            · rw [y]; exact Or.inr ⟨s, h0, by omega, eq.symm, q1, q2⟩
          · rintro (y | ⟨s', y1, y2, y3⟩)
            · exact Or.inl (Or.inl y)
            · by_cases w : s' = s
              · rw [w] at y3
                exact Or.inr (y3.1.symm.trans eq.symm)
              · exact Or.inl (Or.inr ⟨s', y1, by omega, y3⟩)))
        refine ⟨hi', a7', G, fun r hM P u10 hP => ?_⟩
        obtain ⟨x, x1, x2⟩ := isClear_run (t := t0 + n) (here := p / 3) (there := q / 3) hM E1 (by omega)
        have ex : x ≠ 0 := by
          rcases x1 with ⟨y, -⟩ | ⟨-, y⟩
          · omega
          · exact absurd q2 y
        exact GX12_finds_133 hM v a b t0 a5 n a7 p s u10 ⟨fun z => absurd z (by omega), fun _ => ld r hM _ ⟨fun z => absurd z q1, fun _ => ⟨⟨by omega, by omega⟩, hp.1, by omega, x2 _ ⟨fun _ => ⟨⟨by omega, by omega⟩, ⟨by omega, by omega⟩, ⟨by omega, by omega⟩, by omega, zs, w r hM P _ hP⟩, fun z => absurd z ex⟩⟩⟩⟩
      · obtain ⟨hi', a7', G, w⟩ := ih (s + 1) hi a7 (by omega) (by omega) (F.cong (fun z => by
          constructor
          · rintro (y | ⟨s', y1, y2, y3⟩)
            · exact Or.inl y
            · exact Or.inr ⟨s', y1, by omega, y3⟩
          · rintro (y | ⟨s', y1, y2, y3⟩)
            · exact Or.inl y
            · by_cases w : s' = s
              · exfalso
                rw [w] at y3
                have ez : z = q := y3.1.symm.trans eq.symm
                have := y3.2.2
                rw [ez] at this
                exact q2 this
              · exact Or.inr ⟨s', y1, by omega, y3⟩))
        refine ⟨hi', a7', G, fun r hM P u10 hP => ?_⟩
        obtain ⟨x, x1, x2⟩ := isClear_run (t := t0 + n) (here := p / 3) (there := q / 3) hM E1 (by omega)
        have ex : x = 0 := by
          rcases x1 with ⟨-, y⟩ | ⟨y, -⟩
          · exact absurd y q2
          · exact y
        exact GX12_finds_133 hM v a b t0 a5 n a7 p s u10 ⟨fun z => absurd z (by omega), fun _ => ld r hM _ ⟨fun z => absurd z q1, fun _ => ⟨⟨by omega, by omega⟩, hp.1, by omega, x2 _ ⟨fun z => absurd ex z, fun _ => ⟨zs, w r hM P _ hP⟩⟩⟩⟩⟩
/-- layers up to n of what comes -/
def CM (ln wd vn : Int) (k pk tr tb te : Int → Int) (v a b t0 : Int) (n : Nat) (hi : zI) : Prop := (∀ i : Nat, i ≤ n → ∀ p, 0 ≤ p → p < 768 → (hi 57 0 (768 * (i : Int) + p) ≠ 0 ↔ rch ln wd vn k pk tr tb te v a b t0 i p)) ∧ (∀ z, 768 * ((n : Int) + 1) ≤ z → z < 231168 → hi 57 0 z = 0) ∧ (∀ z, 0 ≤ z → z < 231168 → hi 58 0 z = 0)
theorem rch_bd (Y : Yd ln wd k a b (pk v)) {n : Nat} {p : Int} (h : rch ln wd vn k pk tr tb te v a b t0 n p) : 0 ≤ p ∧ p < 3 * (ln * wd) := by
  obtain ⟨y, x, st, hy, hx, hs, e, -⟩ := rch_in Y n p h
  have := gc_in hy.1 hy.2 hx.1 hx.2
  omega
theorem finds_94 {m : zI} (E : ME m ln wd vn v a b t0 k pk tr tb te) {n : Nat} (hn : n < 300) (C : CM ln wd vn k pk tr tb te v a b t0 n m) (a5 : Int) : ∀ (j : Nat) (p : Int) (hi : zI) (a7 : Int), p + j = 3 * (ln * wd) → 0 ≤ p → FI n m hi (fun q => ∃ p', p' < p ∧ rch ln wd vn k pk tr tb te v a b t0 n p' ∧ stp ln wd vn k pk tr tb te v a b (t0 + n) p' q) a7 →
    ∃ hi' a7', FI n m hi' (rch ln wd vn k pk tr tb te v a b t0 (n + 1)) a7' ∧
      ∀ r, RSm r → ∀ (P : Int → zI → Prop) u9 u10, (a7' ≠ 0 → ∀ u7 u8 u9 u10, WP mX12_finds 61 [some (.inr (some (37, 0))), some (.inl v), some (.inl a), some (.inl b), some (.inl t0), some (.inl a5), some (.inl ((n : Int) + 1)), u7, u8, u9, u10, none] [] hi' r (zQ1i r P)) → (a7' = 0 → P 0 hi') →
        WP mX12_finds 94 [some (.inr (some (37, 0))), some (.inl v), some (.inl a), some (.inl b), some (.inl t0), some (.inl a5), some (.inl n), some (.inl a7), some (.inl p), u9, u10, none] [] hi r (zQ1i r P) := by
  have Y := E.2.2.2.2.2.1
  have y2 := yd_256 Y
  have hl := Y.1
  have e3 : 3 * ln * wd = 3 * (ln * wd) := Int.mul_assoc 3 ln wd
  intro j
  induction j with
  | zero =>
    intro p hi a7 hj h0 F
    have e5 : hi 37 0 5 = ln := by rw [F.1 37 (by decide)]; exact E.1.1
    have e6 : hi 37 0 6 = wd := by rw [F.1 37 (by decide)]; exact E.1.2.1
    refine ⟨hi, a7, F.cong (fun q => ?_), fun r hM P u9 u10 h1 h2 => ?_⟩
    · constructor
      · rintro ⟨p', x1, x2, x3⟩
        exact ⟨p', x2, x3⟩
      · rintro ⟨p', x2, x3⟩
        exact ⟨p', by have := (rch_bd Y x2).2; omega, x2, x3⟩
    · refine GX12_finds_94 hM v a b t0 a5 n a7 p u9 u10 ?_
      rw [e5, e6, e3]
      exact ⟨⟨by omega, by omega⟩, ⟨by omega, by omega⟩, fun _ => ⟨fun z => ⟨⟨by omega, by omega⟩, h1 z _ _ _ _⟩, h2⟩, fun q => absurd q (by omega)⟩
  | succ j ih =>
    intro p hi a7 hj h0 F
    have e5 : hi 37 0 5 = ln := by rw [F.1 37 (by decide)]; exact E.1.1
    have e6 : hi 37 0 6 = wd := by rw [F.1 37 (by decide)]; exact E.1.2.1
    have hb : hi 57 0 (768 * (n : Int) + p) ≠ 0 ↔ rch ln wd vn k pk tr tb te v a b t0 n p := by
      rw [F.2.1 _ (by omega)]
      exact C.1 n (Nat.le_refl n) p h0 (by omega)
    by_cases q : rch ln wd vn k pk tr tb te v a b t0 n p
    · obtain ⟨h1, a71, F1, w1⟩ := finds_133 E hn (p := p) ⟨h0, by omega⟩ a5 5 0 hi a7 (by omega) (by omega) (A := fun q => ∃ p', p' < p ∧ rch ln wd vn k pk tr tb te v a b t0 n p' ∧ stp ln wd vn k pk tr tb te v a b (t0 + n) p' q) (F.cong (fun q => ⟨fun z => Or.inl z, fun z => z.elim (fun y => y) (fun ⟨s', y1, y2, _⟩ => by omega)⟩))
      obtain ⟨h2, a72, F2, w2⟩ := ih (p + 1) h1 a71 (by omega) (by omega) (F1.cong (fun z => by
        constructor
        · rintro (⟨p', y1, y2⟩ | y)
          · exact ⟨p', by omega, y2⟩
          · exact ⟨p, by omega, q, y⟩
        · rintro ⟨p', y1, y2, y3⟩
          by_cases w : p' = p
          · rw [w] at y3; exact Or.inr y3
          · exact Or.inl ⟨p', by omega, y2, y3⟩))
      refine ⟨h2, a72, F2, fun r hM P u9 u10 x1 x2 => GX12_finds_94 hM v a b t0 a5 n a7 p u9 u10 ?_⟩
      rw [e5, e6, e3]
      exact ⟨⟨by omega, by omega⟩, ⟨by omega, by omega⟩, fun z => absurd z (by omega), fun _ => ⟨⟨by omega, by omega⟩, ⟨by omega, by omega⟩, by omega, fun _ => w1 r hM P _ (fun u9' u10' => w2 r hM P u9' u10' x1 x2), fun z => absurd z (hb.mpr q)⟩⟩
    · obtain ⟨h2, a72, F2, w2⟩ := ih (p + 1) hi a7 (by omega) (by omega) (F.cong (fun z => by
        constructor
        · rintro ⟨p', y1, y2⟩
          exact ⟨p', by omega, y2⟩
        · rintro ⟨p', y1, y2, y3⟩
          by_cases w : p' = p
          · rw [w] at y2; exact absurd y2 q
          · exact ⟨p', by omega, y2, y3⟩))
      refine ⟨h2, a72, F2, fun r hM P u9 u10 x1 x2 => GX12_finds_94 hM v a b t0 a5 n a7 p u9 u10 ?_⟩
      rw [e5, e6, e3]
      have hz : hi 57 0 (768 * (n : Int) + p) = 0 := by
        by_cases z : hi 57 0 (768 * (n : Int) + p) = 0
        · exact z
        · exact absurd (hb.mp z) q
      exact ⟨⟨by omega, by omega⟩, ⟨by omega, by omega⟩, fun z => absurd z (by omega), fun _ => ⟨⟨by omega, by omega⟩, ⟨by omega, by omega⟩, by omega, fun z => absurd hz z, fun _ => ⟨⟨by omega, by omega⟩, w2 r hM P u9 u10 x1 x2⟩⟩⟩
/-- what the search forwards comes to -/
theorem finds_61 : ∀ (j n : Nat) (hi : zI), n + j = 300 → ME hi ln wd vn v a b t0 k pk tr tb te → CM ln wd vn k pk tr tb te v a b t0 n hi → (∀ i : Nat, i < n → ¬ rch ln wd vn k pk tr tb te v a b t0 i (3 * pk v + 2)) →
    ∃ hi', fdE hi hi' ∧ ((¬ Fnd ln wd vn k pk tr tb te v a b t0 ∧ ∀ r, RSm r → ∀ (P : Int → zI → Prop) u7 u8 u9 u10, P 0 hi' → WP mX12_finds 61 [some (.inr (some (37, 0))), some (.inl v), some (.inl a), some (.inl b), some (.inl t0), some (.inl (3 * pk v + 2)), some (.inl n), u7, u8, u9, u10, none] [] hi r (zQ1i r P)) ∨
      ∃ N : Nat, N ≤ 300 ∧ rch ln wd vn k pk tr tb te v a b t0 N (3 * pk v + 2) ∧ (∀ i : Nat, i < N → ¬ rch ln wd vn k pk tr tb te v a b t0 i (3 * pk v + 2)) ∧ CM ln wd vn k pk tr tb te v a b t0 N hi' ∧
        ∀ r, RSm r → ∀ (P : Int → zI → Prop) u7 u8 u9 u10, (∀ u8 u9 u10, WP mX12_finds 248 [some (.inr (some (37, 0))), some (.inl v), some (.inl a), some (.inl b), some (.inl t0), some (.inl (3 * pk v + 2)), some (.inl N), some (.inl ((N : Int) - 1)), u8, u9, u10, none] [] (zup hi' 58 0 (768 * (N : Int) + (3 * pk v + 2)) 1) r (zQ1i r P)) →
          WP mX12_finds 61 [some (.inr (some (37, 0))), some (.inl v), some (.inl a), some (.inl b), some (.inl t0), some (.inl (3 * pk v + 2)), some (.inl n), u7, u8, u9, u10, none] [] hi r (zQ1i r P)) := by
  intro j
  induction j with
  | zero =>
    intro n hi hj E C G
    have Y := E.2.2.2.2.2.1
    have y2 := yd_256 Y
    have hp := Y.2.2.2.2.2
    have hb := C.1 n (Nat.le_refl n) (3 * pk v + 2) (by omega) (by omega)
    by_cases q : rch ln wd vn k pk tr tb te v a b t0 n (3 * pk v + 2)
    · exact ⟨hi, fdE.refl hi, Or.inr ⟨n, by omega, q, G, C, fun r hM P u7 u8 u9 u10 hP => GX12_finds_61 hM v a b t0 _ n u7 u8 u9 u10 ⟨⟨by omega, by omega⟩, ⟨by omega, by omega⟩, by omega, fun _ => ⟨⟨by omega, by omega⟩, ⟨by omega, by omega⟩, by omega, ⟨by omega, by omega⟩, hP _ _ _⟩, fun z => absurd z (hb.mpr q)⟩⟩⟩
    · refine ⟨hi, fdE.refl hi, Or.inl ⟨?_, fun r hM P u7 u8 u9 u10 hP => GX12_finds_61 hM v a b t0 _ n u7 u8 u9 u10 ⟨⟨by omega, by omega⟩, ⟨by omega, by omega⟩, by omega, fun z => absurd (hb.mp z) q, fun _ => ⟨fun z => absurd (show (n : Int) = 300 by omega) z, fun _ => hP⟩⟩⟩⟩
      rintro ⟨i, i1, i2⟩
      by_cases z : i = n
      · rw [z] at i2; exact q i2
      · exact G i (by omega) i2
  | succ j ih =>
    intro n hi hj E C G
    have Y := E.2.2.2.2.2.1
    have y2 := yd_256 Y
    have hp := Y.2.2.2.2.2
    have hb := C.1 n (Nat.le_refl n) (3 * pk v + 2) (by omega) (by omega)
    by_cases q : rch ln wd vn k pk tr tb te v a b t0 n (3 * pk v + 2)
    · exact ⟨hi, fdE.refl hi, Or.inr ⟨n, by omega, q, G, C, fun r hM P u7 u8 u9 u10 hP => GX12_finds_61 hM v a b t0 _ n u7 u8 u9 u10 ⟨⟨by omega, by omega⟩, ⟨by omega, by omega⟩, by omega, fun _ => ⟨⟨by omega, by omega⟩, ⟨by omega, by omega⟩, by omega, ⟨by omega, by omega⟩, hP _ _ _⟩, fun z => absurd z (hb.mpr q)⟩⟩⟩
    · obtain ⟨h1, a7, F, w⟩ := finds_94 E (n := n) (by omega) C (3 * pk v + 2) (3 * (ln * wd)).toNat 0 hi 0 (by omega) (by omega) ⟨fun _ _ => rfl, fun _ _ => rfl, fun z z0 z1 => ⟨fun y => absurd (C.2.1 (768 * ((n : Int) + 1) + z) (by omega) (by omega)) y, fun ⟨p', y1, y2, _⟩ => by have := (rch_bd Y y2).1; omega⟩, Or.inl ⟨rfl, fun z ⟨p', y1, y2, _⟩ => by have := (rch_bd Y y2).1; omega⟩⟩
      have fd : fdE hi h1 := fun z z1 _ => F.1 z z1
      have C1 : CM ln wd vn k pk tr tb te v a b t0 (n + 1) h1 := by
        refine ⟨fun i i1 p p0 p1 => ?_, fun z z0 z1 => ?_, fun z z0 z1 => ?_⟩
        · by_cases y : i = n + 1
          · subst y
            have := F.2.2.1 p p0 p1
            have ec : ((n + 1 : Nat) : Int) = (n : Int) + 1 := by omega
            rw [ec]
            exact this
          · rw [F.2.1 _ (by omega)]
            exact C.1 i (by omega) p p0 p1
        · rw [F.2.1 _ (by omega)]
          exact C.2.1 z (by omega) z1
        · rw [F.1 58 (by decide)]
          exact C.2.2 z z0 z1
      have G1 : ∀ i : Nat, i < n + 1 → ¬ rch ln wd vn k pk tr tb te v a b t0 i (3 * pk v + 2) := by
        intro i i1
        by_cases z : i = n
        · rw [z]; exact q
        · exact G i (by omega)
      rcases F.2.2.2 with ⟨z7, zB⟩ | ⟨z7, zB⟩
      · refine ⟨h1, fd, Or.inl ⟨?_, fun r hM P u7 u8 u9 u10 hP => GX12_finds_61 hM v a b t0 _ n u7 u8 u9 u10 ⟨⟨by omega, by omega⟩, ⟨by omega, by omega⟩, by omega, fun z => absurd (hb.mp z) q, fun _ => ⟨fun _ => w r hM P _ _ (fun z => absurd z7 z) (fun _ => hP), fun z => absurd z (show (n : Int) ≠ 300 by omega)⟩⟩⟩⟩
        rintro ⟨i, i1, i2⟩
        by_cases z : i < n + 1
        · exact G1 i z i2
        · have := rch_none zB (i - (n + 1)) (3 * pk v + 2)
          rw [show n + 1 + (i - (n + 1)) = i by omega] at this
          exact this i2
      · obtain ⟨h2, f1, f2⟩ := ih (n + 1) h1 (by omega) (E.keep fd) C1 G1
        have ec : ((n + 1 : Nat) : Int) = (n : Int) + 1 := by omega
        rw [ec] at f2
        refine ⟨h2, fd.trans f1, ?_⟩
        rcases f2 with ⟨x1, x2⟩ | ⟨N, x1, x2, x3, x4, x5⟩
        · exact Or.inl ⟨x1, fun r hM P u7 u8 u9 u10 hP => GX12_finds_61 hM v a b t0 _ n u7 u8 u9 u10 ⟨⟨by omega, by omega⟩, ⟨by omega, by omega⟩, by omega, fun z => absurd (hb.mp z) q, fun _ => ⟨fun _ => w r hM P _ _ (fun _ u7' u8' u9' u10' => x2 r hM P u7' u8' u9' u10' hP) (fun z => absurd z (by omega)), fun z => absurd z (show (n : Int) ≠ 300 by omega)⟩⟩⟩
        · exact Or.inr ⟨N, x1, x2, x3, x4, fun r hM P u7 u8 u9 u10 hP => GX12_finds_61 hM v a b t0 _ n u7 u8 u9 u10 ⟨⟨by omega, by omega⟩, ⟨by omega, by omega⟩, by omega, fun z => absurd (hb.mp z) q, fun _ => ⟨fun _ => w r hM P _ _ (fun _ u7' u8' u9' u10' => x5 r hM P u7' u8' u9' u10' hP) (fun z => absurd z (by omega)), fun z => absurd z (show (n : Int) ≠ 300 by omega)⟩⟩⟩
end ZP
