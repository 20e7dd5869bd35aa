def kpV (hi : zI) (ln st now next y : Int) : Int := zand (hi 20 0 (now + y)) (zor (zor (zand (hi 20 0 (next + y)) (zxor (hi 22 0 (st * 16 + y)) (-1))) (if st = 2 then 0 else zand (hi 20 0 (next + 16 + y)) (hi 22 0 (st * 16 + y)))) (bsd (fun i => hi 20 0 (next + i)) ln y))
theorem bsd_cong2 {f f' : Int → Int} {ln y : Int} (h : ∀ i, y - 1 ≤ i → f' i = f i) : bsd f' ln y = bsd f ln y := by
  unfold bsd
  rw [h y (by omega), h (y - 1) (by omega), h (y + 1) (by omega)]
theorem kpV_keep {hi hi1 : zI} {ln st now next y : Int} (e : ∀ q, q ≠ 20 → hi1 q = hi q) (e' : ∀ i, now + y ≤ i → hi1 20 0 i = hi 20 0 i) (hn : now + 48 ≤ next) : kpV hi1 ln st now next y = kpV hi ln st now next y := by
  unfold kpV
  rw [e 22 (by decide), e' (now + y) (by omega), e' (next + y) (by omega), e' (next + 16 + y) (by omega), bsd_cong2 (f := fun i => hi 20 0 (next + i)) (fun i hi => e' (next + i) (by omega))]
theorem kpV_bt {hi : zI} {ln wd st n a b y : Int} {X L : Int → Prop} (hw : 1 ≤ wd ∧ wd ≤ 16) (hs : 0 ≤ st ∧ st < 3) (hy : 0 ≤ y ∧ y < ln) (h4 : TuI hi ln wd a b) (h5 : SI (fun y => hi 20 0 (n * 48 + st * 16 + y)) ln wd (fun c => X (3 * c + st))) (h6 : LyI hi ln wd (n + 1) L) {x : Nat} (hx : x < 32) :
    bt (kpV hi ln st (n * 48 + st * 16) ((n + 1) * 48 + st * 16) y) x = true ↔ (x : Int) < wd ∧ X (3 * (y * wd + x) + st) ∧ ((L (3 * (y * wd + x) + st) ∧ ¬ trn a b st (y * wd + x)) ∨ (trn a b st (y * wd + x) ∧ L (3 * (y * wd + x) + (st + 1))) ∨ nb4 ln wd y x (fun c => L (3 * c + st))) := by
  unfold kpV
  rw [bt_and, bt_or, bt_or, bt_and, bt_not _ _ hx]
  simp only [Bool.and_eq_true, Bool.or_eq_true, Bool.not_eq_true']
  have nb : ∀ {f : Int → Int} {X : Int → Prop}, SI f ln wd X → (x : Int) < wd → (bt (f y) x = false ↔ ¬ X (y * wd + x)) := by
    intro f X h hxw
    have := h y x hy.1 hy.2 hx
    cases z : bt (f y) x with
    | false => exact ⟨fun _ q => (by rw [this.mpr ⟨hxw, q⟩] at z; cases z), fun _ => rfl⟩
    | true => exact ⟨fun q => (by cases q), fun q => absurd (this.mp z).2 q⟩
  have tu : bt (if st = 2 then 0 else zand (hi 20 0 ((n + 1) * 48 + st * 16 + 16 + y)) (hi 22 0 (st * 16 + y))) x = true ↔ (x : Int) < wd ∧ (trn a b st (y * wd + x) ∧ L (3 * (y * wd + x) + (st + 1))) := by
    by_cases q : st = 2
    · rw [if_pos q, bt_0]
      refine ⟨fun z => (by cases z), fun z => ?_⟩
      rcases z.2.1 with w | w <;> omega
    · have g5 := h6 (st + 1) (by omega) (by omega) y x hy.1 hy.2 hx
      have g4 := h4 st (by omega) (by omega) y x hy.1 hy.2 hx
      dsimp only at g5 g4
      rw [show (n + 1) * 48 + (st + 1) * 16 + y = (n + 1) * 48 + st * 16 + 16 + y by omega] at g5
      rw [if_neg q, bt_and, Bool.and_eq_true, g5, g4]
      exact ⟨fun z => ⟨z.1.1, z.2.2, z.1.2⟩, fun z => ⟨⟨z.1, z.2.2⟩, z.1, z.2.1⟩⟩
  rw [tu, h5 y x hy.1 hy.2 hx, h6 st hs.1 hs.2 y x hy.1 hy.2 hx]
  constructor
  · rintro ⟨⟨z1, z2⟩, z5⟩
    refine ⟨z1, z2, ?_⟩
    rcases z5 with (z5 | z5) | z5
    · exact Or.inl ⟨z5.1.2, (nb (h4 st hs.1 hs.2) z1).mp z5.2⟩
    · exact Or.inr (Or.inl z5.2)
    · exact Or.inr (Or.inr ((bsd_bt (h6 st hs.1 hs.2) hw hy z1).mp z5))
  · rintro ⟨z1, z2, z5⟩
    refine ⟨⟨z1, z2⟩, ?_⟩
    rcases z5 with z5 | z5 | z5
    · exact Or.inl (Or.inl ⟨⟨z1, z5.1⟩, (nb (h4 st hs.1 hs.2) z1).mpr z5.2⟩)
    · exact Or.inl (Or.inr ⟨z1, z5⟩)
    · exact Or.inr ((bsd_bt (h6 st hs.1 hs.2) hw hy z1).mpr z5)
section ZP
variable {jm ln wd vn v a b t0 : Int} {k pk tr tb te : Int → Int} {r : zR}
theorem keep_line {n st : Int} (R : RSc r) (hln : ln ≤ 16) (hn : 0 ≤ n ∧ n < 300) (hs : 0 ≤ st ∧ st < 3) : ∀ (m : Nat) (a5 : Int) (hi : zI) (u6 u7 u8 : Option zV), hi 19 0 8 = ln → a5 + m = ln → 0 ≤ a5 →
    ∃ hi', (∀ q, q ≠ 20 → hi' q = hi q) ∧ (∀ i, hi' 20 0 i = if n * 48 + st * 16 + a5 ≤ i ∧ i < n * 48 + st * 16 + ln then kpV hi ln st (n * 48 + st * 16) ((n + 1) * 48 + st * 16) (i - (n * 48 + st * 16)) else hi 20 0 i) ∧
      ∀ P : zI → Prop, P hi' → WP mX4_keepStage 18 [some (.inr (some (19, 0))), some (.inl n), some (.inl st), some (.inl (n * 48 + st * 16)), some (.inl ((n + 1) * 48 + st * 16)), some (.inl a5), u6, u7, u8] [] hi r (zQ1v r P) := by
  intro m
  induction m with
  | zero =>
    intro a5 hi u6 u7 u8 e8 hm h0
    refine ⟨hi, fun _ _ => rfl, fun i => ?_, fun P hP => GX4_keepStage_18 R n st _ _ a5 u6 u7 u8 ⟨fun _ => hP, fun q => absurd q (by omega)⟩⟩
    rw [if_neg (by omega)]
  | succ m ih =>
    intro a5 hi u6 u7 u8 e8 hm h0
    have h6 : 0 ≤ a5 ∧ a5 < 16 := by omega
    obtain ⟨V, eV⟩ : ∃ V, V = kpV hi ln st (n * 48 + st * 16) ((n + 1) * 48 + st * 16) a5 := ⟨_, rfl⟩
    have fin : ∀ hi' : zI, (∀ i, hi' 20 0 i = if n * 48 + st * 16 + (a5 + 1) ≤ i ∧ i < n * 48 + st * 16 + ln then kpV (zup hi 20 0 (n * 48 + st * 16 + a5) V) ln st (n * 48 + st * 16) ((n + 1) * 48 + st * 16) (i - (n * 48 + st * 16)) else zup hi 20 0 (n * 48 + st * 16 + a5) V 20 0 i) →
        (∀ i, hi' 20 0 i = if n * 48 + st * 16 + a5 ≤ i ∧ i < n * 48 + st * 16 + ln then kpV hi ln st (n * 48 + st * 16) ((n + 1) * 48 + st * 16) (i - (n * 48 + st * 16)) else hi 20 0 i) := by
      intro hi' h i
      rw [h i, zup_at]
      by_cases q : i = n * 48 + st * 16 + a5
      · rw [if_neg (by omega), if_pos q, if_pos (by omega), q, zacl, eV]
      · rw [if_neg q]
        by_cases q' : n * 48 + st * 16 + a5 ≤ i ∧ i < n * 48 + st * 16 + ln
        · rw [if_pos (by omega), if_pos q', kpV_keep (hi := hi) (fun q hq => zup_kf _ _ _ _ hq) (fun i' hi' => by rw [zup_at, if_neg (by omega)]) (by omega)]
        · rw [if_neg (by omega), if_neg q']
    have bs := beside_run (hi := hi) R e8 hln (l := (n + 1) * 48 + st * 16) (y := a5) (by omega) (by omega)
    have x17 : (0 * 48 + st * 16 : Int) = st * 16 := by omega
    by_cases q : st = 2
    · obtain ⟨hi', e1, e2, e3⟩ := ih (a5 + 1) (zup hi 20 0 (n * 48 + st * 16 + a5) V) (some (.inl (hi 22 0 (st * 16 + a5)))) (some (.inl (zand (hi 20 0 ((n + 1) * 48 + st * 16 + a5)) (zxor (hi 22 0 (st * 16 + a5)) (-1))))) (some (.inl 0)) e8 (by omega) (by omega)
      refine ⟨hi', fun q hq => (e1 q hq).trans (zup_kf _ _ _ _ hq), fin hi' e2, fun P hP => ?_⟩
      have := e3 P hP
      rw [eV] at this
      unfold kpV at this
      rw [if_pos q] at this
      refine GX4_keepStage_18 R n st _ _ a5 u6 u7 u8 ⟨fun z => absurd z (by omega), fun _ => rowOf_run (by omega) (by omega) _ ?_⟩
      rw [x17]
      exact ⟨⟨by omega, by omega⟩, by omega, ⟨by omega, by omega⟩, by omega, fun z => absurd q z, fun _ => ⟨⟨by omega, by omega⟩, by omega, bs _ ⟨by omega, ⟨by omega, by omega⟩, this⟩⟩⟩
    · obtain ⟨hi', e1, e2, e3⟩ := ih (a5 + 1) (zup hi 20 0 (n * 48 + st * 16 + a5) V) (some (.inl (hi 22 0 (st * 16 + a5)))) (some (.inl (zand (hi 20 0 ((n + 1) * 48 + st * 16 + a5)) (zxor (hi 22 0 (st * 16 + a5)) (-1))))) (some (.inl (zand (hi 20 0 (((n + 1) * 48 + st * 16 + 16) + a5)) (hi 22 0 (st * 16 + a5))))) e8 (by omega) (by omega)
      refine ⟨hi', fun q hq => (e1 q hq).trans (zup_kf _ _ _ _ hq), fin hi' e2, fun P hP => ?_⟩
      have := e3 P hP
      rw [eV] at this
      unfold kpV at this
      rw [if_neg q] at this
      refine GX4_keepStage_18 R n st _ _ a5 u6 u7 u8 ⟨fun z => absurd z (by omega), fun _ => rowOf_run (by omega) (by omega) _ ?_⟩
      rw [x17]
      exact ⟨⟨by omega, by omega⟩, by omega, ⟨by omega, by omega⟩, by omega, fun _ => ⟨⟨by omega, by omega⟩, ⟨by omega, by omega⟩, by omega, ⟨by omega, by omega⟩, by omega, bs _ ⟨by omega, ⟨by omega, by omega⟩, this⟩⟩, fun z => absurd z q⟩
theorem keepStage_run {hi : zI} {st : Int} {n : Nat} (R : RSc r) (Y : Yd ln wd k a b (pk v)) (hn : n < 300) (hs : 0 ≤ st ∧ st < 3) (e8 : hi 19 0 8 = ln) {L : Int → Prop} (hL : ∀ q, L q → rch ln wd vn k pk tr tb te v a b t0 (n + 1) q)
    (h4 : TuI hi ln wd a b) (h5 : SI (fun y => hi 20 0 ((n : Int) * 48 + st * 16 + y)) ln wd (fun c => rcd ln wd vn k pk tr tb te v a b t0 n (3 * c + st))) (h6 : LyI hi ln wd ((n : Int) + 1) L) :
    ∃ hi', (∀ q, q ≠ 20 → hi' q = hi q) ∧ (∀ i, (i < (n : Int) * 48 + st * 16 ∨ (n : Int) * 48 + st * 16 + ln ≤ i) → hi' 20 0 i = hi 20 0 i) ∧ SI (fun y => hi' 20 0 ((n : Int) * 48 + st * 16 + y)) ln wd (fun c => rch ln wd vn k pk tr tb te v a b t0 n (3 * c + st) ∧ ∃ q, stp ln wd vn k pk tr tb te v a b (t0 + n) (3 * c + st) q ∧ L q) ∧ R1v mX4_keepStage [.inr (some (19, 0)), .inl n, .inl st] hi r hi' := by
  have hl := Y.1
  have hw := Y.2.1
  obtain ⟨hi', e1, e2, e3⟩ := keep_line (n := n) R hl.2 (by omega) hs ln.toNat 0 hi none none none e8 (by omega) (by omega)
  refine ⟨hi', e1, fun i hi => ?_, fun y x y0 y1 x1 => ?_, fun P hP => ?_⟩
  · rw [e2, if_neg (by omega)]
  · dsimp only
    rw [e2, if_pos (by omega), zacl, kpV_bt (X := rcd ln wd vn k pk tr tb te v a b t0 n) hw hs ⟨y0, y1⟩ h4 h5 h6 x1]
    refine and_congr_right (fun hx => ?_)
    rw [rch_bwd Y hL ⟨y0, y1⟩ ⟨by omega, hx⟩ hs, nb4_plus ⟨y0, y1⟩ ⟨by omega, hx⟩]
  · exact GX4_keepStage n st (rowOf_run (by omega) (by omega) _ ⟨⟨by omega, by omega⟩, rowOf_run (by omega) (by omega) _ (e3 P hP)⟩)
theorem keep_from {N : Nat} (hN : N ≤ 300) (hg : rch ln wd vn k pk tr tb te v a b t0 N (3 * pk v + 2)) : ∀ (m : Nat) (hi : zI), m ≤ N → PE hi r jm ln wd vn v a b t0 k pk tr tb te → TuI hi ln wd a b → (∀ i : Nat, i < m → LyI hi ln wd i (rcd ln wd vn k pk tr tb te v a b t0 i)) → (∀ i : Nat, m ≤ i → i ≤ N → LyI hi ln wd i (ldn ln wd vn k pk tr tb te v a b t0 N (N - i))) →
    ∃ hi', (∀ q, q ≠ 20 → hi' q = hi q) ∧ (∀ i : Nat, i ≤ N → LyI hi' ln wd i (ldn ln wd vn k pk tr tb te v a b t0 N (N - i))) ∧ ∀ (P : zI → Prop) u3, P hi' → WP mX4_keepWhatLeadsHome 26 [some (.inr (some (19, 0))), some (.inl N), some (.inl ((m : Int) - 1)), u3] [] hi r (zQ1v r P) := by
  intro m
  induction m with
  | zero =>
    intro hi hm E T L1 L2
    exact ⟨hi, fun _ _ => rfl, fun i hi => L2 i (by omega) hi, fun P u3 hP => GX4_keepWhatLeadsHome_26 _ _ u3 ⟨fun _ => hP, fun q => absurd q (by omega)⟩⟩
  | succ m ih =>
    intro hi hm E T L1 L2
    have R := E.1
    have w8 := E.2.2.2.2.1.2.1
    have Y := E.2.2.2.2.2.2.2.2.2.2.1
    have hl := Y.1
    have eN : N - (m + 1) = N - m - 1 := by omega
    have eN2 : N - m = (N - (m + 1)) + 1 := by omega
    have hL : ∀ q, ldn ln wd vn k pk tr tb te v a b t0 N (N - (m + 1)) q → rch ln wd vn k pk tr tb te v a b t0 (m + 1) q := fun q hq => by
      have := ldn_rch hg _ _ hq
      rw [show N - (N - (m + 1)) = m + 1 by omega] at this
      exact this
    have ec : ((m + 1 : Nat) : Int) = (m : Int) + 1 := by omega
    have Ln := L2 (m + 1) (by omega) hm
    rw [ec] at Ln
    have Lm := L1 m (by omega)
    obtain ⟨h1, a1, a2, a3, a4⟩ := keepStage_run (st := 0) R Y (n := m) (by omega) (by omega) w8 hL T (Lm 0 (by omega) (by omega)) Ln
    obtain ⟨h2, b1, b2, b3, b4⟩ := keepStage_run (hi := h1) (st := 1) R Y (n := m) (by omega) (by omega) (by rw [a1 19 (by decide)]; exact w8) hL (T.keep (a1 22 (by decide))) ((Lm 1 (by omega) (by omega)).cong (fun y y0 y1 => a2 _ (by omega)) (fun _ _ _ _ _ _ => Iff.rfl)) (Ln.keep hl.2 (fun i i0 i1 => a2 i (by omega)))
    have k2 : ∀ q, q ≠ 20 → h2 q = hi q := fun q hq => (b1 q hq).trans (a1 q hq)
    obtain ⟨h3, c1, c2, c3, c4⟩ := keepStage_run (hi := h2) (st := 2) R Y (n := m) (by omega) (by omega) (by rw [k2 19 (by decide)]; exact w8) hL (T.keep (k2 22 (by decide))) ((Lm 2 (by omega) (by omega)).cong (fun y y0 y1 => (b2 _ (by omega)).trans (a2 _ (by omega))) (fun _ _ _ _ _ _ => Iff.rfl)) (Ln.keep hl.2 (fun i i0 i1 => (b2 i (by omega)).trans (a2 i (by omega))))
    have k3 : ∀ q, q ≠ 20 → h3 q = hi q := fun q hq => (c1 q hq).trans (k2 q hq)
    have ld : ∀ p, ldn ln wd vn k pk tr tb te v a b t0 N (N - m) p ↔ (rch ln wd vn k pk tr tb te v a b t0 m p ∧ ∃ q, stp ln wd vn k pk tr tb te v a b (t0 + m) p q ∧ ldn ln wd vn k pk tr tb te v a b t0 N (N - (m + 1)) q) := by
      intro p
      rw [eN2]
      show (rch ln wd vn k pk tr tb te v a b t0 (N - (N - (m + 1) + 1)) p ∧ ∃ q, stp ln wd vn k pk tr tb te v a b (t0 + ((N - (N - (m + 1) + 1) : Nat) : Int)) p q ∧ ldn ln wd vn k pk tr tb te v a b t0 N (N - (m + 1)) q) ↔ _
      rw [show N - (N - (m + 1) + 1) = m by omega]
    have Lm3 : LyI h3 ln wd m (ldn ln wd vn k pk tr tb te v a b t0 N (N - m)) := by
      intro st s0 s1
      have : st = 0 ∨ st = 1 ∨ st = 2 := by omega
      rcases this with rfl | rfl | rfl
      · exact a3.cong (fun y y0 y1 => (c2 _ (by omega)).trans (b2 _ (by omega))) (fun _ _ _ _ _ _ => ld _)
      · exact b3.cong (fun y y0 y1 => c2 _ (by omega)) (fun _ _ _ _ _ _ => ld _)
      · exact c3.cong (fun _ _ _ => rfl) (fun _ _ _ _ _ _ => ld _)
    have other : ∀ i : Nat, i ≠ m → ∀ z, (i : Int) * 48 ≤ z → z < (i : Int) * 48 + 48 → h3 20 0 z = hi 20 0 z := fun i hi z z0 z1 => (c2 z (by omega)).trans ((b2 z (by omega)).trans (a2 z (by omega)))
    obtain ⟨h4, d1, d2, d3⟩ := ih h3 (by omega) (E.keep (plE.of1 k3 (by decide))) (T.keep (k3 22 (by decide))) (fun i hi => (L1 i (by omega)).keep hl.2 (other i (by omega))) (fun i i0 i1 => by
      by_cases q : i = m
      · subst q; exact Lm3
      · exact (L2 i (by omega) i1).keep hl.2 (other i q))
    refine ⟨h4, fun q hq => (d1 q hq).trans (k3 q hq), d2, fun P u3 hP => ?_⟩
    have e1 : ((m + 1 : Nat) : Int) - 1 = m := by omega
    rw [e1]
    refine GX4_keepWhatLeadsHome_26 _ _ u3 ⟨fun q => absurd q (by omega), fun _ => ?_⟩
    refine GX4_keepWhatLeadsHome_32 _ _ 0 ⟨fun q => absurd q (by omega), fun _ => a4 _ ⟨⟨by omega, by omega⟩, ?_⟩⟩
    refine GX4_keepWhatLeadsHome_32 _ _ (0 + 1) ⟨fun q => absurd q (by omega), fun _ => b4 _ ⟨⟨by omega, by omega⟩, ?_⟩⟩
    refine GX4_keepWhatLeadsHome_32 _ _ (0 + 1 + 1) ⟨fun q => absurd q (by omega), fun _ => c4 _ ⟨⟨by omega, by omega⟩, ?_⟩⟩
    refine GX4_keepWhatLeadsHome_32 _ _ (0 + 1 + 1 + 1) ⟨fun _ => ⟨⟨by omega, by omega⟩, ?_⟩, fun q => absurd q (by omega)⟩
    exact d3 P _ hP
theorem keep_run {hi : zI} {N : Nat} (hN : 1 ≤ N ∧ N ≤ 300) (hg : rch ln wd vn k pk tr tb te v a b t0 N (3 * pk v + 2)) (E : PE hi r jm ln wd vn v a b t0 k pk tr tb te) (T : TuI hi ln wd a b) (L1 : ∀ i : Nat, i < N → LyI hi ln wd i (rcd ln wd vn k pk tr tb te v a b t0 i)) :
    ∃ hi', (∀ q, q ≠ 20 → hi' q = hi q) ∧ (∀ i : Nat, i ≤ N → LyI hi' ln wd i (ldn ln wd vn k pk tr tb te v a b t0 N (N - i))) ∧ R1v mX4_keepWhatLeadsHome [.inr (some (19, 0)), .inl N] hi r hi' := by
  have R := E.1
  have E0 := E
  obtain ⟨-, -, -, -, ⟨w7, w8, w9, w10, w11, w12, w13⟩, -, -, -, -, ht, Y, -⟩ := E
  have hl := Y.1
  have hw := Y.2.1
  have hp := Y.2.2.2.2.2
  have dv := div_bd hw.1 hl.2 ⟨hp.1, hp.2.1⟩
  obtain ⟨h1, eh1⟩ : ∃ h1, h1 = zfil hi 20 0 ((N : Int) * 48) ((N : Int) * 48 + 48) 0 := ⟨_, rfl⟩
  have a1 : ∀ q, q ≠ 20 → h1 q = hi q := by
    intro q hq
    rw [eh1]
    funext j s
    show (if q = 20 ∧ j = 0 ∧ (N : Int) * 48 ≤ s ∧ s < (N : Int) * 48 + 48 then 0 else hi q j s) = hi q j s
    rw [if_neg (fun z => hq z.1)]
  have a2 : ∀ i, h1 20 0 i = if (N : Int) * 48 ≤ i ∧ i < (N : Int) * 48 + 48 then 0 else hi 20 0 i := by
    intro i
    rw [eh1]
    show (if 20 = 20 ∧ (0 : Int) = 0 ∧ (N : Int) * 48 ≤ i ∧ i < (N : Int) * 48 + 48 then 0 else hi 20 0 i) = _
    by_cases q : (N : Int) * 48 ≤ i ∧ i < (N : Int) * 48 + 48
    · rw [if_pos ⟨rfl, rfl, q⟩, if_pos q]
    · rw [if_neg (fun z => q z.2.2), if_neg q]
  obtain ⟨h2, eh2⟩ : ∃ h2, h2 = zup h1 20 0 ((N : Int) * 48 + 2 * 16 + pk v / wd) (zor (h1 20 0 ((N : Int) * 48 + 2 * 16 + pk v / wd)) (zshl 1 (pk v % wd))) := ⟨_, rfl⟩
  have b1 : ∀ q, q ≠ 20 → h2 q = hi q := fun q hq => by rw [eh2, zup_kf _ _ _ _ hq, a1 q hq]
  have b2 : ∀ i, (i < (N : Int) * 48) → h2 20 0 i = hi 20 0 i := fun i hi => by rw [eh2, zup_at, if_neg (by omega), a2, if_neg (by omega)]
  have L2 : LyI h2 ln wd N (ldn ln wd vn k pk tr tb te v a b t0 N (N - N)) := by
    rw [Nat.sub_self]
    intro st s0 s1
    have em : SI (fun y => h1 20 0 ((N : Int) * 48 + st * 16 + y)) ln wd (fun _ => False) := SI.empty (fun y y0 y1 => by rw [a2, if_pos (by omega)])
    by_cases q : st = 2
    · subst q
      refine (em.mark (f' := fun y => h2 20 0 ((N : Int) * 48 + 2 * 16 + y)) hw ⟨hp.1, hp.2.1⟩ (fun y y0 y1 => ?_)).cong (fun _ _ _ => rfl) (fun y x y0 y1 x0 x1 => ?_)
      · rw [eh2, zup_at]
        by_cases z : y = pk v / wd
        · rw [if_pos (by omega), if_pos z, z]
        · rw [if_neg (by omega), if_neg z]
      · show 3 * (y * wd + x) + 2 = 3 * pk v + 2 ↔ _
        constructor
        · exact fun z => Or.inr (by omega)
        · rintro (z | z)
          · exact z.elim
          · omega
    · refine em.cong (fun y y0 y1 => ?_) (fun y x y0 y1 x0 x1 => ?_)
      · rw [eh2, zup_at, if_neg (by omega)]
      · show 3 * (y * wd + x) + st = 3 * pk v + 2 ↔ _
        exact ⟨fun z => by omega, fun z => z.elim⟩
  obtain ⟨h3, c1, c2, c3⟩ := keep_from hN.2 hg N h2 (by omega) (E0.keep (plE.of1 b1 (by decide))) (T.keep (b1 22 (by decide))) (fun i hi => (L1 i hi).keep hl.2 (fun z z0 z1 => b2 z (by omega))) (fun i i0 i1 => by
    have : i = N := by omega
    subst this
    exact L2)
  refine ⟨h3, fun q hq => (c1 q hq).trans (b1 q hq), c2, fun P hP => GX4_keepWhatLeadsHome R _ (clearLayer_run R (by omega) _ (rowOf_run (by omega) (by omega) _ ?_))⟩
  rw [← eh1]
  have e13 : h1 19 0 13 = pk v := by rw [a1 19 (by decide)]; exact w13
  rw [e13]
  refine mark_Reached (ln := ln) (l2 := (N : Int) * 48 + 2 * 16) (show h1 19 0 7 = wd by rw [a1 19 (by decide)]; exact w7) hw.1 hl.2 (by omega) ⟨hp.1, hp.2.1⟩ _ ?_
  rw [← eh2]
  exact ⟨⟨by omega, by omega⟩, c3 P _ hP⟩
end ZP
