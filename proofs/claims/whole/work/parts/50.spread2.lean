def spV (hi : zI) (jb ja ln now y : Int) : Int := zland (zland (zland (hi 21 0 y) (zlxor (hi 23 jb y) (-1))) (zlxor (hi 23 ja y) (-1))) (zlor (zlor (zland (hi 20 0 (now + y)) (zlxor (hi 22 0 y) (-1))) (zlshl (zland (hi 20 0 (now + y)) (hi 22 0 y)) 20)) (bsd (fun i => hi 20 0 (now + i)) ln y))
theorem bsd_cong {f f' : Int → Int} {ln y : Int} (h : ∀ i, i ≤ y + 1 → i < ln → f' i = f i) (hy : y < ln) : bsd f' ln y = bsd f ln y := by
  unfold bsd
  rw [h y (by omega) hy, h (y - 1) (by omega) (by omega)]
  by_cases q : y + 1 < ln
  · rw [if_pos q, if_pos q, h (y + 1) (by omega) q]
  · rw [if_neg q, if_neg q]
theorem spV_keep {hi hi1 : zI} {jb ja ln now y : Int} (e : ∀ q, q ≠ 20 → hi1 q = hi q) (e' : ∀ i, i < now + 16 → hi1 20 0 i = hi 20 0 i) (hy : y < ln) (hl : ln ≤ 16) : spV hi1 jb ja ln now y = spV hi jb ja ln now y := by
  unfold spV
  rw [e 21 (by decide), e 22 (by decide), e 23 (by decide), e' (now + y) (by omega), bsd_cong (f := fun i => hi 20 0 (now + i)) (fun i _ hi => e' (now + i) (by omega)) hy]
theorem spV_bt {hi : zI} {jb ja ln wd n a b y : Int} {O Hb Ha X : Int → Prop} (hw : 1 ≤ wd ∧ wd ≤ 16) (hy : 0 ≤ y ∧ y < ln) (h1 : SI (hi 21 0) ln wd (fun p => O (p / 3))) (h2 : SI (hi 23 jb) ln wd (fun p => Hb (p / 3))) (h3 : SI (hi 23 ja) ln wd (fun p => Ha (p / 3))) (h4 : TuI hi ln wd a b) (h5 : LyI hi ln wd n X) {st x : Nat} (hs4 : st < 4) (hx20 : x < 20) :
    bt (spV hi jb ja ln (n * 16) y) (20 * st + x) = true ↔ st < 3 ∧ (x : Int) < wd ∧ O (y * wd + x) ∧ ¬ Hb (y * wd + x) ∧ ¬ Ha (y * wd + x) ∧ ((X (3 * (y * wd + x) + st) ∧ ¬ trn a b st (y * wd + x)) ∨ (1 ≤ (st : Int) ∧ X (3 * (y * wd + x) + (st - 1)) ∧ trn a b (st - 1) (y * wd + x)) ∨ nb4 ln wd y x (fun c => X (3 * c + st))) := by
  unfold spV
  rw [bt_and, bt_and, bt_and, bt_or, bt_or, bt_and]
  simp only [Bool.and_eq_true, Bool.or_eq_true]
  have h1' := h1 y st x hy.1 hy.2 hs4 hx20
  dsimp only at h1'
  rw [h1']
  by_cases hg : st < 3 ∧ (x : Int) < wd
  · obtain ⟨hs, hx⟩ := hg
    have i64 : 20 * st + x < 64 := by omega
    have e3 := p3 (c := y * wd + x) (st := st) (by omega) (by omega)
    rw [bt_not _ _ i64, bt_not _ _ i64, bt_not _ _ i64, Bool.not_eq_true', Bool.not_eq_true', Bool.not_eq_true', h2.no hy hs hx hw.2, h3.no hy hs hx hw.2, h4.no hy hs hx hw.2]
    have g5 := h5 y st x hy.1 hy.2 hs4 hx20
    dsimp only at g5
    have tu : bt (zlshl (zland (hi 20 0 (n * 16 + y)) (hi 22 0 y)) 20) (20 * st + x) = true ↔ (1 ≤ (st : Int) ∧ X (3 * (y * wd + x) + (st - 1)) ∧ trn a b (st - 1) (y * wd + x)) := by
      rw [bt_shl20 _ _ i64, bt_and, Bool.and_eq_true, Bool.and_eq_true, decide_eq_true_iff]
      by_cases q : 1 ≤ st
      · have e : 20 * st + x - 20 = 20 * (st - 1) + x := by omega
        have g5 := h5 y (st - 1) x hy.1 hy.2 (by omega) hx20
        have g4 := h4 y (st - 1) x hy.1 hy.2 (by omega) hx20
        dsimp only at g5 g4
        rw [Int.ofNat_sub q] at g5 g4
        have e4 := p3 (c := y * wd + x) (st := (st : Int) - 1) (by omega) (by omega)
        have e5 : ((st : Int) - ((1 : Nat) : Int)) = (st : Int) - 1 := rfl
        rw [e5] at g5 g4
        rw [e4.1, e4.2] at g4
        rw [e, g5, g4]
        exact ⟨fun z => ⟨by omega, z.2.1.2.2, z.2.2.2.2⟩, fun z => ⟨by omega, ⟨by omega, hx, z.2.1⟩, by omega, hx, z.2.2⟩⟩
      · exact ⟨fun z => absurd z.1 (by omega), fun z => absurd z.1 (by omega)⟩
    rw [tu, g5, bsd_bt h5 hw hy hs hx, e3.1, e3.2]
    constructor
    · rintro ⟨⟨⟨z1, z2⟩, z3⟩, z4⟩
      refine ⟨hs, hx, z1.2.2, z2, z3, ?_⟩
      rcases z4 with (z4 | z4) | z4
      · exact Or.inl ⟨z4.1.2.2, z4.2⟩
      · exact Or.inr (Or.inl z4)
      · exact Or.inr (Or.inr z4)
    · rintro ⟨-, -, z1, z2, z3, z4⟩
      refine ⟨⟨⟨⟨hs, hx, z1⟩, z2⟩, z3⟩, ?_⟩
      rcases z4 with z4 | z4 | z4
      · exact Or.inl (Or.inl ⟨⟨hs, hx, z4.1⟩, z4.2⟩)
      · exact Or.inl (Or.inr z4)
      · exact Or.inr z4
  · exact ⟨fun z => absurd ⟨z.1.1.1.1, z.1.1.1.2.1⟩ hg, fun z => absurd ⟨z.1, z.2.1⟩ hg⟩
section ZP
variable {jm ln wd vn v a b t0 : Int} {k pk tr tb te : Int → Int} {r : zR}
theorem spread_line {jb ja n : Int} (R : RSc r) (hln : ln ≤ 16) (hn : 0 ≤ n ∧ n < 300) (hjb : 0 ≤ jb ∧ jb < 2) (hja : 0 ≤ ja ∧ ja < 2) (rb : r 19 0 3 = some (23, jb)) (ra : r 19 0 4 = some (23, ja)) : ∀ (m : Nat) (a6 : Int) (hi : zI) (u5 u7 u9 u11 : Option zV), hi 19 0 8 = ln → a6 + m = ln → 0 ≤ a6 →
    ∃ hi', (∀ q, q ≠ 20 → hi' q = hi q) ∧ (∀ i, hi' 20 0 i = if n * 16 + 16 + a6 ≤ i ∧ i < n * 16 + 16 + ln then spV hi jb ja ln (n * 16) (i - (n * 16 + 16)) else hi 20 0 i) ∧
      ∀ P : zI → Prop, P hi' → WP mX4_spreadStep 13 [some (.inr (some (19, 0))), some (.inl n), some (.inl (n * 16)), some (.inl (n * 16 + 16)), some (.inl a6), u5, none, u7, none, u9, none, u11, none] [] hi r (zQ1v r P) := by
  intro m
  induction m with
  | zero =>
    intro a6 hi u5 u7 u9 u11 e8 hm h0
    refine ⟨hi, fun _ _ => rfl, fun i => ?_, fun P hP => GX4_spreadStep_13 R n _ _ a6 u5 u7 u9 u11 ⟨fun _ => hP, fun q => absurd q (by omega)⟩⟩
    rw [if_neg (by omega)]
  | succ m ih =>
    intro a6 hi u5 u7 u9 u11 e8 hm h0
    have h6 : 0 ≤ a6 ∧ a6 < 16 := by omega
    obtain ⟨V, eV⟩ : ∃ V, V = spV hi jb ja ln (n * 16) a6 := ⟨_, rfl⟩
    have fin : ∀ hi' : zI, (∀ i, hi' 20 0 i = if n * 16 + 16 + (a6 + 1) ≤ i ∧ i < n * 16 + 16 + ln then spV (zup hi 20 0 (n * 16 + 16 + a6) V) jb ja ln (n * 16) (i - (n * 16 + 16)) else zup hi 20 0 (n * 16 + 16 + a6) V 20 0 i) →
        (∀ i, hi' 20 0 i = if n * 16 + 16 + a6 ≤ i ∧ i < n * 16 + 16 + ln then spV hi jb ja ln (n * 16) (i - (n * 16 + 16)) else hi 20 0 i) := by
      intro hi' h i
      rw [h i, zup_at]
      by_cases q : i = n * 16 + 16 + a6
      · rw [if_neg (by omega), if_pos q, if_pos (by omega), q, zacl, eV]
      · rw [if_neg q]
        by_cases q' : n * 16 + 16 + a6 ≤ i ∧ i < n * 16 + 16 + ln
        · rw [if_pos (by omega), if_pos q', spV_keep (hi := hi) (fun q hq => zup_kf _ _ _ _ hq) (fun i' hi' => by rw [zup_at, if_neg (by omega)]) (by omega) hln]
        · rw [if_neg (by omega), if_neg q']
    have bs := beside_run (hi := hi) R e8 hln (l := n * 16) (y := a6) (by omega) (by omega)
    obtain ⟨hi', e1, e2, e3⟩ := ih (a6 + 1) (zup hi 20 0 (n * 16 + 16 + a6) V) (some (.lo (hi 20 0 (n * 16 + a6)))) (some (.lo (zland (hi 20 0 (n * 16 + a6)) (zlxor (hi 22 0 a6) (-1))))) (some (.lo (zlshl (zland (hi 20 0 (n * 16 + a6)) (hi 22 0 a6)) 20))) (some (.lo (zland (zland (hi 21 0 a6) (zlxor (hi 23 jb a6) (-1))) (zlxor (hi 23 ja a6) (-1))))) e8 (by omega) (by omega)
    refine ⟨hi', fun q hq => (e1 q hq).trans (zup_kf _ _ _ _ hq), fin hi' e2, fun P hP => ?_⟩
    have := e3 P hP
    rw [eV] at this
    unfold spV at this
    exact GX4_spreadStep_13 R n _ _ a6 u5 u7 u9 u11 ⟨fun z => absurd z (by omega), fun _ => ⟨⟨by omega, by omega⟩, by omega, h6, h6, h6, jb, rb, hjb, h6, ja, ra, hja, h6, ⟨by omega, by omega⟩, bs _ ⟨by omega, ⟨by omega, by omega⟩, this⟩⟩⟩
/-- one step -/
theorem spreadStep_run {hi : zI} {jb ja : Int} {n : Nat} (R : RSc r) (Y : Yd ln wd k a b (pk v)) (hn : n < 300) (hjb : 0 ≤ jb ∧ jb < 2) (hja : 0 ≤ ja ∧ ja < 2) (rb : r 19 0 3 = some (23, jb)) (ra : r 19 0 4 = some (23, ja)) (e8 : hi 19 0 8 = ln)
    (h1 : SI (hi 21 0) ln wd (fun p => opn k a b (pk v) (p / 3))) (h2 : SI (hi 23 jb) ln wd (fun p => hld vn pk tr tb te v (t0 + n) (p / 3))) (h3 : SI (hi 23 ja) ln wd (fun p => hld vn pk tr tb te v (t0 + n + 1) (p / 3))) (h4 : TuI hi ln wd a b) (h5 : LyI hi ln wd n (rcd ln wd vn k pk tr tb te v a b t0 n)) :
    ∃ hi', (∀ q, q ≠ 20 → hi' q = hi q) ∧ (∀ i, (i < (n : Int) * 16 + 16 ∨ (n : Int) * 16 + 16 + ln ≤ i) → hi' 20 0 i = hi 20 0 i) ∧ LyI hi' ln wd ((n : Int) + 1) (rch ln wd vn k pk tr tb te v a b t0 (n + 1)) ∧ R1v mX4_spreadStep [.inr (some (19, 0)), .inl n] hi r hi' := by
  have hl := Y.1
  have hw := Y.2.1
  obtain ⟨hi', e1, e2, e3⟩ := spread_line (n := n) R hl.2 (by omega) hjb hja rb ra ln.toNat 0 hi none none none none e8 (by omega) (by omega)
  refine ⟨hi', e1, fun i hi => ?_, fun y st x y0 y1 s1 x1 => ?_, fun P hP => GX4_spreadStep n ⟨⟨by omega, by omega⟩, ⟨by omega, by omega⟩, e3 P hP⟩⟩
  · rw [e2, if_neg (by omega)]
  · dsimp only
    rw [show ((n : Int) + 1) * 16 + y = (n : Int) * 16 + 16 + y by omega, e2, if_pos (by omega), zacl, spV_bt hw ⟨y0, y1⟩ h1 h2 h3 h4 h5 s1 x1]
    refine and_congr_right (fun hs => and_congr_right (fun hx => ?_))
    rw [rch_fwd Y ⟨y0, y1⟩ ⟨by omega, hx⟩ ⟨by omega, by omega⟩, nb4_minus ⟨y0, y1⟩ ⟨by omega, hx⟩]
end ZP
