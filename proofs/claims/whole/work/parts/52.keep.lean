def kpV (hi : zI) (ln now next y : Int) : Int := zland (hi 20 0 (now + y)) (zlor (zlor (zland (hi 20 0 (next + y)) (zlxor (hi 22 0 y) (-1))) (zland (zlushr (hi 20 0 (next + y)) 20) (hi 22 0 y))) (bsd (fun i => hi 20 0 (next + i)) ln y))
theorem bsd_cong2 {f f' : Int → Int} {ln y : Int} (h : ∀ i, y - 1 ≤ i → f' i = f i) : bsd f' ln y = bsd f ln y := by
  unfold bsd
  rw [h y (by omega), h (y - 1) (by omega), h (y + 1) (by omega)]
theorem kpV_keep {hi hi1 : zI} {ln now next y : Int} (e : ∀ q, q ≠ 20 → hi1 q = hi q) (e' : ∀ i, now + y ≤ i → hi1 20 0 i = hi 20 0 i) (hn : now + 16 ≤ next) : kpV hi1 ln now next y = kpV hi ln now next y := by
  unfold kpV
  rw [e 22 (by decide), e' (now + y) (by omega), e' (next + y) (by omega), bsd_cong2 (f := fun i => hi 20 0 (next + i)) (fun i hi => e' (next + i) (by omega))]
theorem kpV_bt {hi : zI} {ln wd n a b y : Int} {X L : Int → Prop} (hw : 1 ≤ wd ∧ wd ≤ 16) (hy : 0 ≤ y ∧ y < ln) (h4 : TuI hi ln wd a b) (h5 : LyI hi ln wd n X) (h6 : LyI hi ln wd (n + 1) L) {st x : Nat} (hs4 : st < 4) (hx20 : x < 20) :
    bt (kpV hi ln (n * 16) ((n + 1) * 16) y) (20 * st + x) = true ↔ st < 3 ∧ (x : Int) < wd ∧ X (3 * (y * wd + x) + st) ∧ ((L (3 * (y * wd + x) + st) ∧ ¬ trn a b st (y * wd + x)) ∨ (trn a b st (y * wd + x) ∧ L (3 * (y * wd + x) + (st + 1))) ∨ nb4 ln wd y x (fun c => L (3 * c + st))) := by
  unfold kpV
  rw [bt_and, bt_or, bt_or, bt_and, bt_and, bt_ushr20]
  simp only [Bool.and_eq_true, Bool.or_eq_true]
  have g5 := h5 y st x hy.1 hy.2 hs4 hx20
  have g6 := h6 y st x hy.1 hy.2 hs4 hx20
  have g4 := h4 y st x hy.1 hy.2 hs4 hx20
  dsimp only at g5 g6 g4
  rw [g5]
  by_cases hg : st < 3 ∧ (x : Int) < wd
  · obtain ⟨hs, hx⟩ := hg
    have i64 : 20 * st + x < 64 := by omega
    have e3 := p3 (c := y * wd + x) (st := st) (by omega) (by omega)
    have g7 := h6 y (st + 1) x hy.1 hy.2 (by omega) hx20
    dsimp only at g7
    have ec : ((st + 1 : Nat) : Int) = (st : Int) + 1 := by omega
    rw [e3.1, e3.2] at g4
    rw [ec] at g7
    rw [bt_not _ _ i64, Bool.not_eq_true', h4.no hy hs hx hw.2, g6, g4, show 20 * st + x + 20 = 20 * (st + 1) + x by omega, g7, bsd_bt h6 hw hy hs hx, e3.1, e3.2]
    constructor
    · rintro ⟨z1, z5⟩
      refine ⟨hs, hx, z1.2.2, ?_⟩
      rcases z5 with (z5 | z5) | z5
      · exact Or.inl ⟨z5.1.2.2, z5.2⟩
      · exact Or.inr (Or.inl ⟨z5.2.2.2, z5.1.2.2⟩)
      · exact Or.inr (Or.inr z5)
    · rintro ⟨-, -, z1, z5⟩
      refine ⟨⟨hs, hx, z1⟩, ?_⟩
      rcases z5 with z5 | z5 | z5
      · exact Or.inl (Or.inl ⟨⟨hs, hx, z5.1⟩, z5.2⟩)
      · refine Or.inl (Or.inr ⟨⟨?_, hx, z5.2⟩, hs, hx, z5.1⟩)
        rcases z5.1 with w | w <;> omega
      · exact Or.inr z5
  · exact ⟨fun z => absurd ⟨z.1.1, z.1.2.1⟩ hg, fun z => absurd ⟨z.1, z.2.1⟩ hg⟩
section ZP
variable {jm ln wd vn v a b t0 : Int} {k pk tr tb te : Int → Int} {r : zR}
theorem keep_line {n : Int} (R : RSc r) (hln : ln ≤ 16) (hn : 0 ≤ n ∧ n < 300) : ∀ (m : Nat) (a5 : Int) (hi : zI) (u5 u7 u9 : Option zV), hi 19 0 8 = ln → a5 + m = ln → 0 ≤ a5 →
    ∃ hi', (∀ q, q ≠ 20 → hi' q = hi q) ∧ (∀ i, hi' 20 0 i = if n * 16 + a5 ≤ i ∧ i < n * 16 + ln then kpV hi ln (n * 16) (n * 16 + 16) (i - n * 16) else hi 20 0 i) ∧
      ∀ P : zI → Prop, P hi' → WP mX4_keepStep 13 [some (.inr (some (19, 0))), some (.inl n), some (.inl (n * 16)), some (.inl (n * 16 + 16)), some (.inl a5), u5, none, u7, none, u9, none] [] hi r (zQ1v r P) := by
  intro m
  induction m with
  | zero =>
    intro a5 hi u5 u7 u9 e8 hm h0
    refine ⟨hi, fun _ _ => rfl, fun i => ?_, fun P hP => GX4_keepStep_13 R n _ _ a5 u5 u7 u9 ⟨fun _ => hP, fun q => absurd q (by omega)⟩⟩
    rw [if_neg (by omega)]
  | succ m ih =>
    intro a5 hi u5 u7 u9 e8 hm h0
    have h6 : 0 ≤ a5 ∧ a5 < 16 := by omega
    obtain ⟨V, eV⟩ : ∃ V, V = kpV hi ln (n * 16) (n * 16 + 16) a5 := ⟨_, rfl⟩
    have fin : ∀ hi' : zI, (∀ i, hi' 20 0 i = if n * 16 + (a5 + 1) ≤ i ∧ i < n * 16 + ln then kpV (zup hi 20 0 (n * 16 + a5) V) ln (n * 16) (n * 16 + 16) (i - n * 16) else zup hi 20 0 (n * 16 + a5) V 20 0 i) →
        (∀ i, hi' 20 0 i = if n * 16 + a5 ≤ i ∧ i < n * 16 + ln then kpV hi ln (n * 16) (n * 16 + 16) (i - n * 16) else hi 20 0 i) := by
      intro hi' h i
      rw [h i, zup_at]
      by_cases q : i = n * 16 + a5
      · rw [if_neg (by omega), if_pos q, if_pos (by omega), q, zacl, eV]
      · rw [if_neg q]
        by_cases q' : n * 16 + a5 ≤ i ∧ i < n * 16 + ln
        · rw [if_pos (by omega), if_pos q', kpV_keep (hi := hi) (fun q hq => zup_kf _ _ _ _ hq) (fun i' hi' => by rw [zup_at, if_neg (by omega)]) (by omega)]
        · rw [if_neg (by omega), if_neg q']
    have bs := beside_run (hi := hi) R e8 hln (l := n * 16 + 16) (y := a5) (by omega) (by omega)
    obtain ⟨hi', e1, e2, e3⟩ := ih (a5 + 1) (zup hi 20 0 (n * 16 + a5) V) (some (.lo (hi 20 0 (n * 16 + 16 + a5)))) (some (.lo (zland (hi 20 0 (n * 16 + 16 + a5)) (zlxor (hi 22 0 a5) (-1))))) (some (.lo (zland (zlushr (hi 20 0 (n * 16 + 16 + a5)) 20) (hi 22 0 a5)))) e8 (by omega) (by omega)
    refine ⟨hi', fun q hq => (e1 q hq).trans (zup_kf _ _ _ _ hq), fin hi' e2, fun P hP => ?_⟩
    have := e3 P hP
    rw [eV] at this
    unfold kpV at this
    exact GX4_keepStep_13 R n _ _ a5 u5 u7 u9 ⟨fun z => absurd z (by omega), fun _ => ⟨⟨by omega, by omega⟩, by omega, h6, h6, ⟨by omega, by omega⟩, by omega, bs _ ⟨by omega, ⟨by omega, by omega⟩, this⟩⟩⟩
theorem keepStep_run {hi : zI} {n : Nat} (R : RSc r) (Y : Yd ln wd k a b (pk v)) (hn : n < 300) (e8 : hi 19 0 8 = ln) {L : Int → Prop} (hL : ∀ q, L q → rch ln wd vn k pk tr tb te v a b t0 (n + 1) q)
    (h4 : TuI hi ln wd a b) (h5 : LyI hi ln wd n (rcd ln wd vn k pk tr tb te v a b t0 n)) (h6 : LyI hi ln wd ((n : Int) + 1) L) :
    ∃ hi', (∀ q, q ≠ 20 → hi' q = hi q) ∧ (∀ i, (i < (n : Int) * 16 ∨ (n : Int) * 16 + ln ≤ i) → hi' 20 0 i = hi 20 0 i) ∧ LyI hi' ln wd n (fun p => rch ln wd vn k pk tr tb te v a b t0 n p ∧ ∃ q, stp ln wd vn k pk tr tb te v a b (t0 + n) p q ∧ L q) ∧ R1v mX4_keepStep [.inr (some (19, 0)), .inl n] hi r hi' := by
  have hl := Y.1
  have hw := Y.2.1
  obtain ⟨hi', e1, e2, e3⟩ := keep_line (n := n) R hl.2 (by omega) ln.toNat 0 hi none none none e8 (by omega) (by omega)
  refine ⟨hi', e1, fun i hi => ?_, fun y st x y0 y1 s1 x1 => ?_, fun P hP => GX4_keepStep n ⟨⟨by omega, by omega⟩, ⟨by omega, by omega⟩, e3 P hP⟩⟩
  · rw [e2, if_neg (by omega)]
  · dsimp only
    rw [e2, if_pos (by omega), zacl, show (n : Int) * 16 + 16 = ((n : Int) + 1) * 16 by omega, kpV_bt hw ⟨y0, y1⟩ h4 h5 h6 s1 x1]
    refine and_congr_right (fun hs => and_congr_right (fun hx => ?_))
    rw [rch_bwd Y hL ⟨y0, y1⟩ ⟨by omega, hx⟩ ⟨by omega, by omega⟩, nb4_plus ⟨y0, y1⟩ ⟨by omega, hx⟩]
theorem keep_from {N : Nat} (hN : N ≤ 300) (hg : rch ln wd vn k pk tr tb te v a b t0 N (3 * pk v + 2)) : ∀ (m : Nat) (hi : zI), m ≤ N → PE hi r jm ln wd vn v a b t0 k pk tr tb te → TuI hi ln wd a b → (∀ i : Nat, i < m → LyI hi ln wd i (rcd ln wd vn k pk tr tb te v a b t0 i)) → (∀ i : Nat, m ≤ i → i ≤ N → LyI hi ln wd i (ldn ln wd vn k pk tr tb te v a b t0 N (N - i))) →
    ∃ hi', (∀ q, q ≠ 20 → hi' q = hi q) ∧ (∀ i : Nat, i ≤ N → LyI hi' ln wd i (ldn ln wd vn k pk tr tb te v a b t0 N (N - i))) ∧ ∀ (P : zI → Prop), P hi' → WP mX4_keepWhatLeadsHome 23 [some (.inr (some (19, 0))), some (.inl N), some (.inl ((m : Int) - 1))] [] hi r (zQ1v r P) := by
  intro m
  induction m with
  | zero =>
    intro hi hm E T L1 L2
    exact ⟨hi, fun _ _ => rfl, fun i hi => L2 i (by omega) hi, fun P hP => GX4_keepWhatLeadsHome_23 _ _ ⟨fun _ => hP, fun q => absurd q (by omega)⟩⟩
  | succ m ih =>
    intro hi hm E T L1 L2
    have R := E.1
    have w8 := E.2.2.2.2.1.2.1
    have Y := E.2.2.2.2.2.2.2.2.2.2.1
    have hl := Y.1
    have eN2 : N - m = (N - (m + 1)) + 1 := by omega
    have hL : ∀ q, ldn ln wd vn k pk tr tb te v a b t0 N (N - (m + 1)) q → rch ln wd vn k pk tr tb te v a b t0 (m + 1) q := fun q hq => by
      have := ldn_rch hg _ _ hq
      rw [show N - (N - (m + 1)) = m + 1 by omega] at this
      exact this
    have ec : ((m + 1 : Nat) : Int) = (m : Int) + 1 := by omega
    have Ln := L2 (m + 1) (by omega) hm
    rw [ec] at Ln
    have Lm := L1 m (by omega)
    obtain ⟨h3, c1, c2, c3, c4⟩ := keepStep_run R Y (n := m) (by omega) w8 hL T Lm Ln
    have ld : ∀ p, ldn ln wd vn k pk tr tb te v a b t0 N (N - m) p ↔ (rch ln wd vn k pk tr tb te v a b t0 m p ∧ ∃ q, stp ln wd vn k pk tr tb te v a b (t0 + m) p q ∧ ldn ln wd vn k pk tr tb te v a b t0 N (N - (m + 1)) q) := by
      intro p
      rw [eN2]
      show (rch ln wd vn k pk tr tb te v a b t0 (N - (N - (m + 1) + 1)) p ∧ ∃ q, stp ln wd vn k pk tr tb te v a b (t0 + ((N - (N - (m + 1) + 1) : Nat) : Int)) p q ∧ ldn ln wd vn k pk tr tb te v a b t0 N (N - (m + 1)) q) ↔ _
      rw [show N - (N - (m + 1) + 1) = m by omega]
    have Lm3 : LyI h3 ln wd m (ldn ln wd vn k pk tr tb te v a b t0 N (N - m)) := SI.cong c3 (fun _ _ _ => rfl) (fun _ _ _ _ _ _ _ _ _ => ld _)
    have other : ∀ i : Nat, i ≠ m → ∀ z, (i : Int) * 16 ≤ z → z < (i : Int) * 16 + 16 → h3 20 0 z = hi 20 0 z := fun i hi z z0 z1 => c2 z (by omega)
    obtain ⟨h4, d1, d2, d3⟩ := ih h3 (by omega) (E.keep (plE.of1 c1 (by decide))) (T.keep (c1 22 (by decide))) (fun i hi => (L1 i (by omega)).keep hl.2 (other i (by omega))) (fun i i0 i1 => by
      by_cases q : i = m
      · subst q; exact Lm3
      · exact (L2 i (by omega) i1).keep hl.2 (other i q))
    refine ⟨h4, fun q hq => (d1 q hq).trans (c1 q hq), d2, fun P hP => ?_⟩
    have e1 : ((m + 1 : Nat) : Int) - 1 = m := by omega
    rw [e1]
    exact GX4_keepWhatLeadsHome_23 _ _ ⟨fun q => absurd q (by omega), fun _ => c4 _ ⟨⟨by omega, by omega⟩, d3 P hP⟩⟩
theorem keep_run {hi : zI} {N : Nat} (hN : 1 ≤ N ∧ N ≤ 300) (hg : rch ln wd vn k pk tr tb te v a b t0 N (3 * pk v + 2)) (E : PE hi r jm ln wd vn v a b t0 k pk tr tb te) (T : TuI hi ln wd a b) (L1 : ∀ i : Nat, i < N → LyI hi ln wd i (rcd ln wd vn k pk tr tb te v a b t0 i)) :
    ∃ hi', (∀ q, q ≠ 20 → hi' q = hi q) ∧ (∀ i : Nat, i ≤ N → LyI hi' ln wd i (ldn ln wd vn k pk tr tb te v a b t0 N (N - i))) ∧ R1v mX4_keepWhatLeadsHome [.inr (some (19, 0)), .inl N] hi r hi' := by
  have R := E.1
  have E0 := E
  obtain ⟨-, -, -, -, ⟨w7, w8, w9, w10, w11, w12, w13⟩, -, -, -, -, ht, Y, -⟩ := E
  have hl := Y.1
  have hw := Y.2.1
  have hp := Y.2.2.2.2.2
  have dv := div_bd hw.1 hl.2 ⟨hp.1, hp.2.1⟩
  obtain ⟨h1, eh1⟩ : ∃ h1, h1 = zfil hi 20 0 ((N : Int) * 16) ((N : Int) * 16 + 16) 0 := ⟨_, rfl⟩
  have a1 : ∀ q, q ≠ 20 → h1 q = hi q := by
    intro q hq
    rw [eh1]
    funext j s
    show (if q = 20 ∧ j = 0 ∧ (N : Int) * 16 ≤ s ∧ s < (N : Int) * 16 + 16 then 0 else hi q j s) = hi q j s
    rw [if_neg (fun z => hq z.1)]
  have a2 : ∀ i, h1 20 0 i = if (N : Int) * 16 ≤ i ∧ i < (N : Int) * 16 + 16 then 0 else hi 20 0 i := by
    intro i
    rw [eh1]
    show (if 20 = 20 ∧ (0 : Int) = 0 ∧ (N : Int) * 16 ≤ i ∧ i < (N : Int) * 16 + 16 then 0 else hi 20 0 i) = _
    by_cases q : (N : Int) * 16 ≤ i ∧ i < (N : Int) * 16 + 16
    · rw [if_pos ⟨rfl, rfl, q⟩, if_pos q]
    · rw [if_neg (fun z => q z.2.2), if_neg q]
  obtain ⟨h2, eh2⟩ : ∃ h2, h2 = zup h1 20 0 ((N : Int) * 16 + pk v / wd) (zlor (h1 20 0 ((N : Int) * 16 + pk v / wd)) (zlshl 1 (2 * 20 + pk v % wd))) := ⟨_, rfl⟩
  have b1 : ∀ q, q ≠ 20 → h2 q = hi q := fun q hq => by rw [eh2, zup_kf _ _ _ _ hq, a1 q hq]
  have b2 : ∀ i, (i < (N : Int) * 16) → h2 20 0 i = hi 20 0 i := fun i hi => by rw [eh2, zup_at, if_neg (by omega), a2, if_neg (by omega)]
  have L2 : LyI h2 ln wd N (ldn ln wd vn k pk tr tb te v a b t0 N (N - N)) := by
    rw [Nat.sub_self]
    have em : SI (fun y => h1 20 0 ((N : Int) * 16 + y)) ln wd (fun _ => False) := SI.empty (fun y y0 y1 => by rw [a2, if_pos (by omega)])
    refine (em.mark (f' := fun y => h2 20 0 ((N : Int) * 16 + y)) (c := pk v) (s := 2) hw (by omega) (fun y y0 y1 => ?_)).cong (fun _ _ _ => rfl) (fun y x st y0 y1 x0 x1 s0 s1 => ?_)
    · rw [eh2, zup_at]
      by_cases z : y = pk v / wd
      · rw [if_pos (by omega), if_pos z, z]
      · rw [if_neg (by omega), if_neg z]
    · show 3 * (y * wd + x) + st = 3 * pk v + 2 ↔ _
      constructor
      · exact fun z => Or.inr (by omega)
      · rintro (z | z)
        · exact z.elim
        · omega
  obtain ⟨h3, c1, c2, c3⟩ := keep_from hN.2 hg N h2 (by omega) (E0.keep (plE.of1 b1 (by decide))) (T.keep (b1 22 (by decide))) (fun i hi => (L1 i hi).keep hl.2 (fun z z0 z1 => b2 z (by omega))) (fun i i0 i1 => by
    have : i = N := by omega
    subst this
    exact L2)
  refine ⟨h3, fun q hq => (c1 q hq).trans (b1 q hq), c2, fun P hP => GX4_keepWhatLeadsHome R _ (clearStep_run R (by omega) _ ?_)⟩
  rw [← eh1]
  have e13 : h1 19 0 13 = pk v := by rw [a1 19 (by decide)]; exact w13
  rw [e13]
  refine mark_Reached (ln := ln) (l2 := (N : Int)) (show h1 19 0 7 = wd by rw [a1 19 (by decide)]; exact w7) hw hl.2 (by omega) (by omega) ⟨hp.1, hp.2.1⟩ _ ?_
  rw [← eh2]
  exact ⟨⟨by omega, by omega⟩, c3 P hP⟩
end ZP
