/-- two tellings of the same yard and trips -/
def AG (ln wd vn v : Int) (k pk tr tb te k' pk' tr' tb' te' : Int → Int) : Prop := (∀ c, 0 ≤ c → c < ln * wd → k c = k' c) ∧ pk v = pk' v ∧ ∀ u t, 0 ≤ u → u < vn → tAt pk tr tb te u t = tAt pk' tr' tb' te' u t
section ZP
variable {ln wd vn v a b t0 : Int} {k pk tr tb te k' pk' tr' tb' te' : Int → Int}
theorem AG.symm (h : AG ln wd vn v k pk tr tb te k' pk' tr' tb' te') : AG ln wd vn v k' pk' tr' tb' te' k pk tr tb te :=
  ⟨fun c x y => (h.1 c x y).symm, h.2.1.symm, fun u t x y => (h.2.2 u t x y).symm⟩
theorem AG.yd (h : AG ln wd vn v k pk tr tb te k' pk' tr' tb' te') (Y : Yd ln wd k a b (pk v)) : Yd ln wd k' a b (pk' v) := by
  obtain ⟨h1, h2, h3, h4, h5, h6⟩ := Y
  rw [← h.2.1]
  exact ⟨h1, h2, fun c x y => by rw [← h.1 c x y]; exact h3 c x y, ⟨h4.1, h4.2.1, by rw [← h.1 a h4.1 h4.2.1]; exact h4.2.2⟩, ⟨h5.1, h5.2.1, by rw [← h.1 b h5.1 h5.2.1]; exact h5.2.2⟩, ⟨h6.1, h6.2.1, by rw [← h.1 (pk v) h6.1 h6.2.1]; exact h6.2.2⟩⟩
theorem AG.clr (h : AG ln wd vn v k pk tr tb te k' pk' tr' tb' te') {t x y : Int} (c : clr vn pk tr tb te v t x y) : clr vn pk' tr' tb' te' v t x y := by
  intro u u0 u1 hne
  rw [← h.2.2 u t u0 u1, ← h.2.2 u (t + 1) u0 u1]
  exact c u u0 u1 hne
theorem AG.ldTo (h : AG ln wd vn v k pk tr tb te k' pk' tr' tb' te') (Y : Yd ln wd k a b (pk v)) {p s : Int} (hp : 0 ≤ p ∧ p < 3 * (ln * wd)) (hs : 0 ≤ s ∧ s < 5) : ldTo ln wd k' a b (pk' v) p s = ldTo ln wd k a b (pk v) p s := by
  have Y' := h.yd Y
  obtain ⟨y, x, y0, y1, x0, x1, e⟩ := gc_of Y.2.1.1 (show 0 ≤ p / 3 by omega) (show p / 3 < ln * wd by omega)
  have g := gc_in y0 y1 x0 x1
  have ep : p = 3 * (y * wd + x) + p % 3 := by omega
  rw [ep]
  by_cases q : s = 0
  · subst q
    rcases ldTo_stay (ln := ln) (wd := wd) (k := k) (a := a) (b := b) (pa := pk v) (st := p % 3) g.1 (by omega) with ⟨w, z⟩ | ⟨w, z⟩
    · rcases ldTo_stay (ln := ln) (wd := wd) (k := k') (a := a) (b := b) (pa := pk' v) (st := p % 3) g.1 (by omega) with ⟨w', z'⟩ | ⟨w', z'⟩
      · rw [z, z']
      · exact absurd w w'
    · rcases ldTo_stay (ln := ln) (wd := wd) (k := k') (a := a) (b := b) (pa := pk' v) (st := p % 3) g.1 (by omega) with ⟨w', z'⟩ | ⟨w', z'⟩
      · exact absurd w' w
      · rw [z, z']
  · have es : s = (s - 1) + 1 := by omega
    rw [es]
    have oc : ∀ c, 0 ≤ c → c < ln * wd → (opn k a b (pk v) c ↔ opn k' a b (pk' v) c) := fun c c0 c1 => by
      unfold opn
      rw [h.1 c c0 c1, h.2.1]
    rcases ldTo_go (st := p % 3) (d := s - 1) Y ⟨y0, y1⟩ ⟨x0, x1⟩ (by omega) (by omega) with ⟨w, z⟩ | ⟨w, z⟩
    · rcases ldTo_go (st := p % 3) (d := s - 1) Y' ⟨y0, y1⟩ ⟨x0, x1⟩ (by omega) (by omega) with ⟨w', z'⟩ | ⟨w', z'⟩
      · rw [z, z']
      · have g' := gc_in w.1 w.2.1 w.2.2.1 w.2.2.2.1
        exact absurd ⟨w.1, w.2.1, w.2.2.1, w.2.2.2.1, (oc _ g'.1 g'.2).mp w.2.2.2.2⟩ w'
    · rcases ldTo_go (st := p % 3) (d := s - 1) Y' ⟨y0, y1⟩ ⟨x0, x1⟩ (by omega) (by omega) with ⟨w', z'⟩ | ⟨w', z'⟩
      · have g' := gc_in w'.1 w'.2.1 w'.2.2.1 w'.2.2.2.1
        exact absurd ⟨w'.1, w'.2.1, w'.2.2.1, w'.2.2.2.1, (oc _ g'.1 g'.2).mpr w'.2.2.2.2⟩ w
      · rw [z, z']
theorem AG.stp (h : AG ln wd vn v k pk tr tb te k' pk' tr' tb' te') (Y : Yd ln wd k a b (pk v)) {t p q : Int} (hp : 0 ≤ p ∧ p < 3 * (ln * wd)) (w : stp ln wd vn k pk tr tb te v a b t p q) : stp ln wd vn k' pk' tr' tb' te' v a b t p q := by
  obtain ⟨s, s0, s1, s2, s3, s4⟩ := w
  exact ⟨s, s0, s1, (h.ldTo Y hp ⟨s0, s1⟩).trans s2, s3, h.clr s4⟩
theorem AG.rch (h : AG ln wd vn v k pk tr tb te k' pk' tr' tb' te') (Y : Yd ln wd k a b (pk v)) : ∀ (n : Nat) (p : Int), rch ln wd vn k pk tr tb te v a b t0 n p → rch ln wd vn k' pk' tr' tb' te' v a b t0 n p := by
  intro n
  induction n with
  | zero =>
    intro p w
    show p = 3 * pk' v
    rw [← h.2.1]
    exact w
  | succ n ih =>
    rintro q ⟨p, w1, w2⟩
    exact ⟨p, ih p w1, h.stp Y (rch_bd Y w1) w2⟩
theorem AG.fnd (h : AG ln wd vn v k pk tr tb te k' pk' tr' tb' te') (Y : Yd ln wd k a b (pk v)) (w : Fnd ln wd vn k pk tr tb te v a b t0) : Fnd ln wd vn k' pk' tr' tb' te' v a b t0 := by
  obtain ⟨n, n1, n2⟩ := w
  refine ⟨n, n1, ?_⟩
  rw [← h.2.1]
  exact h.rch Y n _ n2
theorem AG.ldn (h : AG ln wd vn v k pk tr tb te k' pk' tr' tb' te') (Y : Yd ln wd k a b (pk v)) {N : Nat} : ∀ (j : Nat) (p : Int), ldn ln wd vn k pk tr tb te v a b t0 N j p → ldn ln wd vn k' pk' tr' tb' te' v a b t0 N j p := by
  intro j
  induction j with
  | zero =>
    intro p w
    show p = 3 * pk' v + 2
    rw [← h.2.1]
    exact w
  | succ j ih =>
    rintro p ⟨w1, q, w2, w3⟩
    exact ⟨h.rch Y _ _ w1, q, h.stp Y (rch_bd Y w1) w2, ih q w3⟩
theorem AG.fstc (h : AG ln wd vn v k pk tr tb te k' pk' tr' tb' te') (Y : Yd ln wd k a b (pk v)) {L : Int → Prop} {p q s0 : Int} (hp : 0 ≤ p ∧ p < 3 * (ln * wd)) (w : fstc ln wd k pk v a b L p q s0) : fstc ln wd k' pk' v a b L p q s0 := by
  obtain ⟨w1, w2, w3, w4, w5⟩ := w
  refine ⟨w1, (h.ldTo Y hp w1).trans w2, w3, w4, fun s' a0 a1 => ?_⟩
  rw [h.ldTo Y hp ⟨a0, by omega⟩]
  exact w5 s' a0 a1
theorem fst_st (Y : Yd ln wd k a b (pk v)) {L : Int → Prop} {p q s0 : Int} (hp : 0 ≤ p ∧ p < 3 * (ln * wd)) (hL : ∀ q, L q → 0 ≤ q ∧ opn k a b (pk v) (q / 3)) (h : fstc ln wd k pk v a b L p q s0) : q = p ∨ (q / 3 ≠ p / 3 ∧ q % 3 = p % 3) ∨ (q / 3 = p / 3 ∧ q % 3 = p % 3 + 1) := by
  have ep : 3 * (p / 3) + p % 3 = p := by omega
  rw [← ep] at h
  by_cases g : 1 ≤ s0
  · obtain ⟨x1, x2, x3, x4, x5, x6⟩ := fst_go Y (by omega) (by omega) hL h g
    exact Or.inr (Or.inl ⟨x4, by omega⟩)
  · have s00 : s0 = 0 := by have := h.1; omega
    obtain ⟨-, e0, -⟩ := h
    rw [s00] at e0
    rcases ldTo_stay (ln := ln) (wd := wd) (k := k) (a := a) (b := b) (pa := pk v) (c := p / 3) (st := p % 3) (by omega) (by omega) with ⟨w, z⟩ | ⟨w, z⟩
    · have : p % 3 < 2 := by rcases w with w | w <;> omega
      exact Or.inr (Or.inr (by omega))
    · exact Or.inl (by omega)
/-- what following keeps of the class -/
def CK (v : Int) (c c' : zI) : Prop := (∀ z, z ≠ 25 → z ≠ 26 → z ≠ 27 → z ≠ 28 → c' z = c z) ∧ (∀ z j, j ≠ v → c' z j = c z j) ∧ c' 25 v 2 = c 25 v 2
theorem CK.refl (v : Int) (c : zI) : CK v c c := ⟨fun _ _ _ _ _ => rfl, fun _ _ _ => rfl, rfl⟩
theorem CK.cf {v i p q : Int} {c c1 c2 : zI} (C : CF c c1 v i p q) (h : CK v c1 c2) : CK v c c2 := by
  obtain ⟨d1, d2, d3, d4⟩ := C
  refine ⟨fun z x1 x2 x3 x4 => (h.1 z x1 x2 x3 x4).trans (d1 z x1 x2 x3 x4), fun z j hj => (h.2.1 z j hj).trans (d2 z j hj), h.2.2.trans ?_⟩
  rcases d4 with ⟨-, e, -⟩ | ⟨-, -, e⟩
  · rw [e, if_neg (by decide)]
  · rw [e, if_neg (by decide), if_neg (by decide), if_neg (fun y => by have := y.2; split at this <;> omega)]
/-- both follow the trip -/
theorem fol_from {jm : Int} {r : zR} {N : Nat} (a5 : Int) (hN : N ≤ 300) (hg : rch ln wd vn k pk tr tb te v a b t0 N (3 * pk v + 2)) (hv : 0 ≤ v ∧ v < 6) (ht0 : 0 ≤ t0 ∧ t0 ≤ 600) : ∀ (n i : Nat) (p : Int) (hi : zI), i + n = N → FE hi r jm ln wd v a b k pk → hi 25 v 3 = t0 → hi 25 v 4 = i → 0 ≤ hi 25 v 5 ∧ hi 25 v 5 ≤ i → (∀ j : Nat, j ≤ N → LyI hi ln wd j (ldn ln wd vn k pk tr tb te v a b t0 N (N - j))) → ldn ln wd vn k pk tr tb te v a b t0 N (N - i) p →
    ∃ hi', CK v hi hi' ∧ (∀ (P : zI → Prop) u6 u7, P hi' → WP mX4_followFirst 23 [some (.inr (some (19, 0))), some (.inl N), some (.inr (some (25, v))), some (.inl (p / 3)), some (.inl (p % 3)), some (.inl ((i : Int) + 1)), u6, u7] [] hi r (zQ1v r P)) ∧
      ∀ m m1 k' pk' tr' tb' te', AG ln wd vn v k pk tr tb te k' pk' tr' tb' te' → ME m ln wd vn v a b t0 k' pk' tr' tb' te' → MF v m m1 → m1 52 0 v = t0 → m1 53 0 v = t0 + N → (∀ j : Nat, j ≤ N → ∀ p, 0 ≤ p → p < 768 → (m 58 0 (768 * (j : Int) + p) ≠ 0 ↔ ldn ln wd vn k' pk' tr' tb' te' v a b t0 N (N - j) p)) → PR v t0 (ln * wd) i p hi m1 →
        ∃ m2, MF v m m2 ∧ m2 52 0 v = t0 ∧ m2 53 0 v = t0 + N ∧ PR v t0 (ln * wd) N (3 * pk v + 2) hi' m2 ∧ m2 51 0 (301 * v) = m1 51 0 (301 * v) ∧ ∀ r, RSm r → ∀ (P : Int → zI → Prop), P 1 m2 → ∀ u9 u10 u11, WP mX12_finds 448 [some (.inr (some (37, 0))), some (.inl v), some (.inl a), some (.inl b), some (.inl t0), some (.inl a5), some (.inl N), some (.inl p), some (.inl i), u9, u10, u11] [] m1 r (zQ1i r P) := by
  intro n
  induction n with
  | zero =>
    intro i p hi hn E h4 h5 h6 S hl
    have e : i = N := by omega
    subst e
    rw [Nat.sub_self] at hl
    have ep : p = 3 * pk v + 2 := hl
    refine ⟨hi, CK.refl v hi, fun P u6 u7 hP => GX4_followFirst_23 _ v _ _ _ u6 u7 hv ⟨fun _ => hP, fun q => absurd q (by omega)⟩, fun m m1 k' pk' tr' tb' te' A M F e52 e53 hL pr => ?_⟩
    rw [ep] at pr
    exact ⟨m1, F, e52, e53, pr, rfl, fun r hM P hP u9 u10 u11 => GX12_finds_448 v a b t0 a5 _ p _ u9 u10 u11 ⟨fun _ => hP, fun q => absurd q (by omega)⟩⟩
  | succ n ih =>
    intro i p hi hn E h4 h5 h6 S hl
    have Y := E.2.2.2.2.2.1
    have eN : N - i = (N - (i + 1)) + 1 := by omega
    rw [eN] at hl
    obtain ⟨q, s0, f⟩ := fstc_ex hl
    have hp : 0 ≤ p ∧ p < 3 * (ln * wd) := rch_bd Y hl.1
    have hLr : ∀ q, ldn ln wd vn k pk tr tb te v a b t0 N (N - (i + 1)) q → rch ln wd vn k pk tr tb te v a b t0 (i + 1) q := fun q hq => by
      have := ldn_rch hg _ _ hq
      rw [show N - (N - (i + 1)) = i + 1 by omega] at this
      exact this
    have hLo : ∀ q, ldn ln wd vn k pk tr tb te v a b t0 N (N - (i + 1)) q → 0 ≤ q ∧ opn k a b (pk v) (q / 3) := fun q hq => by
      obtain ⟨y, x, st, hy, hx, hs, e, o⟩ := rch_in Y _ _ (hLr q hq)
      have g := gc_in hy.1 hy.2 hx.1 hx.2
      refine ⟨by omega, ?_⟩
      rw [show q / 3 = y * wd + x by omega]
      exact o
    have ep : 3 * (p / 3) + p % 3 = p := by omega
    have f' := f
    rw [← ep] at f'
    have S1 := S (i + 1) (by omega)
    have ec : ((i + 1 : Nat) : Int) = (i : Int) + 1 := by omega
    rw [ec] at S1
    obtain ⟨h1, C, w⟩ := cfol E hv (N := N) S1 ⟨by omega, hN⟩ (by omega) (by omega) hLo f' h5 h6 (by omega)
    rw [ep] at C
    have hq := f.2.2.2.1
    have st := fst_st Y hp hLo f
    have g5 : h1 25 v 4 = ((i + 1 : Nat) : Int) := by
      rcases C.2.2.2 with ⟨-, e, -⟩ | ⟨-, -, e⟩
      · rw [e, if_pos rfl]; omega
      · rw [e, if_pos rfl]; omega
    have g4 : h1 25 v 3 = t0 := by
      rcases C.2.2.2 with ⟨-, e, -⟩ | ⟨-, -, e⟩
      · rw [e, if_neg (by decide)]; exact h4
      · rw [e, if_neg (by decide), if_neg (by decide), if_neg (fun y => by have := y.2; split at this <;> omega)]; exact h4
    have g6 : 0 ≤ h1 25 v 5 ∧ h1 25 v 5 ≤ ((i + 1 : Nat) : Int) := by
      rcases C.2.2.2 with ⟨-, e, -⟩ | ⟨-, -, e⟩
      · rw [e, if_neg (by decide)]; omega
      · rw [e, if_neg (by decide), if_pos rfl]; omega
    have E1 : FE h1 r jm ln wd v a b k pk := E.keep C.1
    have k20 : h1 20 = hi 20 := C.1 20 (by decide) (by decide) (by decide) (by decide)
    obtain ⟨h2, c1, c2, c3⟩ := ih (i + 1) q h1 (by omega) E1 g4 g5 g6 (fun j hj => by
      have := S j hj
      unfold LyI at this ⊢
      rw [k20]
      exact this) hq
    refine ⟨h2, CK.cf C c1, fun P u6 u7 hP => w P u6 u7 (fun u6' u7' => ?_), fun m m1 k' pk' tr' tb' te' A M F e52 e53 hL pr => ?_⟩
    · have := c2 P u6' u7' hP
      rw [ec] at this
      exact this
    · have a54 : 0 ≤ m1 54 0 v ∧ m1 54 0 v ≤ i := ⟨pr.2.2.2.1, pr.2.2.2.2.1⟩
      have hL1 : ∀ q, 0 ≤ q → q < 768 → (m1 58 0 (768 * ((i : Int) + 1) + q) ≠ 0 ↔ ldn ln wd vn k pk tr tb te v a b t0 N (N - (i + 1)) q) := by
        intro q q0 q1
        have := hL (i + 1) (by omega) q q0 q1
        rw [ec] at this
        rw [F.1 58 (by decide) (by decide) (by decide) (by decide) (by decide) (by decide), this]
        exact ⟨A.symm.ldn (A.yd Y) _ q, A.ldn Y _ q⟩
      have hcl : ∀ q', ldn ln wd vn k pk tr tb te v a b t0 N (N - (i + 1)) q' → clr vn pk' tr' tb' te' v (t0 + i) (p / 3) (q' / 3) := by
        intro q' h'
        have := ldn_clr (by omega) hg hl h'
        rw [show N - (N - (i + 1) + 1) = i by omega] at this
        exact A.clr this
      obtain ⟨m2, ms, mw⟩ := mfol (N := N) (i := i) (a5 := a5) M F ⟨by omega, hN⟩ e52 e53 a54 hp hL1 hcl (A.fstc Y hp f)
      have qb := rch_bd Y (hLr q hq)
      have pr2 := pr.step C ms (by omega) ht0.1 (by omega) st
      have F2 := F.step ms (by omega) (by omega)
      have k52 := ms.1 52 (by decide) (by decide) (by decide) (by decide)
      have k53 := ms.1 53 (by decide) (by decide) (by decide) (by decide)
      obtain ⟨m3, x1, x2, x3, x4, x5, x6⟩ := c3 m m2 k' pk' tr' tb' te' A M F2 (by rw [k52]; exact e52) (by rw [k53]; exact e53) hL (by rw [ec]; exact pr2)
      refine ⟨m3, x1, x2, x3, x4, x5.trans ?_, fun r' hM P hP => mw r' hM P (fun u9 u10 u11 => ?_)⟩
      · rw [ms.2.1, if_neg (by omega)]
      · have := x6 r' hM P hP u9 u10 u11
        rw [ec] at this
        exact this
end ZP
