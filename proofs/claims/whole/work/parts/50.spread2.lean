def spV (hi : zI) (jb ja ln st now y : Int) : Int := zand (zand (zand (hi 21 0 y) (zxor (hi 23 jb y) (-1))) (zxor (hi 23 ja y) (-1))) (zor (zor (zand (hi 20 0 (now + y)) (zxor (hi 22 0 (st * 16 + y)) (-1))) (if st = 0 then 0 else zand (hi 20 0 (now - 16 + y)) (hi 22 0 (st * 16 - 16 + y)))) (bsd (fun i => hi 20 0 (now + i)) ln y))
theorem bsd_cong {f f' : Int → Int} {ln y : Int} (h : ∀ i, i ≤ y + 1 → f' i = f i) : bsd f' ln y = bsd f ln y := by
  unfold bsd
  rw [h y (by omega), h (y - 1) (by omega), h (y + 1) (by omega)]
theorem spV_keep {hi hi1 : zI} {jb ja ln st now y : Int} (e : ∀ q, q ≠ 20 → hi1 q = hi q) (e' : ∀ i, i < now + 48 → hi1 20 0 i = hi 20 0 i) (hy : y < 16) : spV hi1 jb ja ln st now y = spV hi jb ja ln st now y := by
  unfold spV
  rw [e 21 (by decide), e 22 (by decide), e 23 (by decide), e' (now + y) (by omega), e' (now - 16 + y) (by omega), bsd_cong (f := fun i => hi 20 0 (now + i)) (fun i hi => e' (now + i) (by omega))]
theorem spV_bt {hi : zI} {jb ja ln wd st n a b y : Int} {O Hb Ha X : Int → Prop} (hw : 1 ≤ wd ∧ wd ≤ 16) (hs : 0 ≤ st ∧ st < 3) (hy : 0 ≤ y ∧ y < ln) (h1 : SI (hi 21 0) ln wd O) (h2 : SI (hi 23 jb) ln wd Hb) (h3 : SI (hi 23 ja) ln wd Ha) (h4 : TuI hi ln wd a b) (h5 : LyI hi ln wd n X) {x : Nat} (hx : x < 32) :
    bt (spV hi jb ja ln st (n * 48 + st * 16) y) x = true ↔ (x : Int) < wd ∧ O (y * wd + x) ∧ ¬ Hb (y * wd + x) ∧ ¬ Ha (y * wd + x) ∧ ((X (3 * (y * wd + x) + st) ∧ ¬ trn a b st (y * wd + x)) ∨ (1 ≤ st ∧ X (3 * (y * wd + x) + (st - 1)) ∧ trn a b (st - 1) (y * wd + x)) ∨ nb4 ln wd y x (fun c => X (3 * c + st))) := by
  unfold spV
  rw [bt_and, bt_and, bt_and, bt_not _ _ hx, bt_not _ _ hx, bt_or, bt_or, bt_and, bt_not _ _ hx]
  simp only [Bool.and_eq_true, Bool.or_eq_true, Bool.not_eq_true']
  have nb : ∀ {f : Int → Int} {X : Int → Prop}, SI f ln wd X → (x : Int) < wd → (bt (f y) x = false ↔ ¬ X (y * wd + x)) := by
    intro f X h hxw
    have := h y x hy.1 hy.2 hx
    cases z : bt (f y) x with
    | false => exact ⟨fun _ q => (by rw [this.mpr ⟨hxw, q⟩] at z; cases z), fun _ => rfl⟩
    | true => exact ⟨fun q => (by cases q), fun q => absurd (this.mp z).2 q⟩
  have tu : bt (if st = 0 then 0 else zand (hi 20 0 (n * 48 + st * 16 - 16 + y)) (hi 22 0 (st * 16 - 16 + y))) x = true ↔ (x : Int) < wd ∧ (1 ≤ st ∧ X (3 * (y * wd + x) + (st - 1)) ∧ trn a b (st - 1) (y * wd + x)) := by
    by_cases q : st = 0
    · rw [if_pos q, bt_0]
      exact ⟨fun z => (by cases z), fun z => by omega⟩
    · have g5 := h5 (st - 1) (by omega) (by omega) y x hy.1 hy.2 hx
      have g4 := h4 (st - 1) (by omega) (by omega) y x hy.1 hy.2 hx
      dsimp only at g5 g4
      rw [show n * 48 + (st - 1) * 16 + y = n * 48 + st * 16 - 16 + y by omega] at g5
      rw [show (st - 1) * 16 + y = st * 16 - 16 + y by omega] at g4
      rw [if_neg q, bt_and, Bool.and_eq_true, g5, g4]
      exact ⟨fun z => ⟨z.1.1, by omega, z.1.2, z.2.2⟩, fun z => ⟨⟨z.1, z.2.2.1⟩, z.1, z.2.2.2⟩⟩
  rw [tu, h1 y x hy.1 hy.2 hx, h5 st hs.1 hs.2 y x hy.1 hy.2 hx]
  constructor
  · rintro ⟨⟨⟨⟨z1, z2⟩, z3⟩, z4⟩, z5⟩
    refine ⟨z1, z2, (nb h2 z1).mp z3, (nb h3 z1).mp z4, ?_⟩
    rcases z5 with (z5 | z5) | z5
    · exact Or.inl ⟨z5.1.2, (nb (h4 st hs.1 hs.2) z1).mp z5.2⟩
    · exact Or.inr (Or.inl z5.2)
    · exact Or.inr (Or.inr ((bsd_bt (h5 st hs.1 hs.2) hw hy z1).mp z5))
  · rintro ⟨z1, z2, z3, z4, z5⟩
    refine ⟨⟨⟨⟨z1, z2⟩, (nb h2 z1).mpr z3⟩, (nb h3 z1).mpr z4⟩, ?_⟩
    rcases z5 with z5 | z5 | z5
    · exact Or.inl (Or.inl ⟨⟨z1, z5.1⟩, (nb (h4 st hs.1 hs.2) z1).mpr z5.2⟩)
    · exact Or.inl (Or.inr ⟨z1, z5⟩)
    · exact Or.inr ((bsd_bt (h5 st hs.1 hs.2) hw hy z1).mpr z5)
section ZP
variable {jm ln wd vn v a b t0 : Int} {k pk tr tb te : Int → Int} {r : zR}
theorem spread_line {jb ja n st : Int} (R : RSc r) (hln : ln ≤ 16) (hn : 0 ≤ n ∧ n < 300) (hs : 0 ≤ st ∧ st < 3) (hjb : 0 ≤ jb ∧ jb < 2) (hja : 0 ≤ ja ∧ ja < 2) (rb : r 19 0 3 = some (23, jb)) (ra : r 19 0 4 = some (23, ja)) : ∀ (m : Nat) (a6 : Int) (hi : zI) (u7 u8 u9 : Option zV), hi 19 0 8 = ln → a6 + m = ln → 0 ≤ a6 →
    ∃ hi', (∀ q, q ≠ 20 → hi' q = hi q) ∧ (∀ i, hi' 20 0 i = if (n + 1) * 48 + st * 16 + a6 ≤ i ∧ i < (n + 1) * 48 + st * 16 + ln then spV hi jb ja ln st (n * 48 + st * 16) (i - ((n + 1) * 48 + st * 16)) else hi 20 0 i) ∧
      ∀ P : zI → Prop, P hi' → WP mX4_spreadStage 25 [some (.inr (some (19, 0))), some (.inl n), some (.inl st), some (.inl (n * 48 + st * 16)), some (.inl ((n + 1) * 48 + st * 16)), some (.inl (st * 16)), some (.inl a6), u7, u8, u9] [] hi r (zQ1v r P) := by
  intro m
  induction m with
  | zero =>
    intro a6 hi u7 u8 u9 e8 hm h0
    refine ⟨hi, fun _ _ => rfl, fun i => ?_, fun P hP => GX4_spreadStage_25 R n st _ _ _ a6 u7 u8 u9 ⟨fun _ => hP, fun q => absurd q (by omega)⟩⟩
    rw [if_neg (by omega)]
  | succ m ih =>
    intro a6 hi u7 u8 u9 e8 hm h0
    have h6 : 0 ≤ a6 ∧ a6 < 16 := by omega
    obtain ⟨V, eV⟩ : ∃ V, V = spV hi jb ja ln st (n * 48 + st * 16) a6 := ⟨_, rfl⟩
    have val : ∀ i, (∀ i', hi i' = hi i') → i < (n + 1) * 48 + st * 16 + ln → (n + 1) * 48 + st * 16 ≤ i → spV (zup hi 20 0 ((n + 1) * 48 + st * 16 + a6) V) jb ja ln st (n * 48 + st * 16) (i - ((n + 1) * 48 + st * 16)) = spV hi jb ja ln st (n * 48 + st * 16) (i - ((n + 1) * 48 + st * 16)) := fun i _ a1 a2 =>
      spV_keep (fun q hq => zup_kf _ _ _ _ hq) (fun i' hi' => by rw [zup_at, if_neg (by omega)]) (by omega)
    have fin : ∀ hi' : zI, (∀ i, hi' 20 0 i = if (n + 1) * 48 + st * 16 + (a6 + 1) ≤ i ∧ i < (n + 1) * 48 + st * 16 + ln then spV (zup hi 20 0 ((n + 1) * 48 + st * 16 + a6) V) jb ja ln st (n * 48 + st * 16) (i - ((n + 1) * 48 + st * 16)) else zup hi 20 0 ((n + 1) * 48 + st * 16 + a6) V 20 0 i) →
        (∀ i, hi' 20 0 i = if (n + 1) * 48 + st * 16 + a6 ≤ i ∧ i < (n + 1) * 48 + st * 16 + ln then spV hi jb ja ln st (n * 48 + st * 16) (i - ((n + 1) * 48 + st * 16)) else hi 20 0 i) := by
      intro hi' h i
      rw [h i, zup_at]
      by_cases q : i = (n + 1) * 48 + st * 16 + a6
      · rw [if_neg (by omega), if_pos q, if_pos (by omega), q, zacl, eV]
      · rw [if_neg q]
        by_cases q' : (n + 1) * 48 + st * 16 + a6 ≤ i ∧ i < (n + 1) * 48 + st * 16 + ln
        · rw [if_pos (by omega), if_pos q', val i (fun _ => rfl) q'.2 (by omega)]
        · rw [if_neg (by omega), if_neg q']
    have bs := beside_run (hi := hi) R e8 hln (l := n * 48 + st * 16) (y := a6) (by omega) (by omega)
    by_cases q : st = 0
    · obtain ⟨hi', e1, e2, e3⟩ := ih (a6 + 1) (zup hi 20 0 ((n + 1) * 48 + st * 16 + a6) V) (some (.inl (zand (zand (hi 21 0 a6) (zxor (hi 23 jb a6) (-1))) (zxor (hi 23 ja a6) (-1))))) (some (.inl (zand (hi 20 0 (n * 48 + st * 16 + a6)) (zxor (hi 22 0 (st * 16 + a6)) (-1))))) (some (.inl 0)) e8 (by omega) (by omega)
      refine ⟨hi', fun q hq => (e1 q hq).trans (zup_kf _ _ _ _ hq), fin hi' e2, fun P hP => ?_⟩
      have := e3 P hP
      rw [eV] at this
      unfold spV at this
      rw [if_pos q] at this
      exact GX4_spreadStage_25 R n st _ _ _ a6 u7 u8 u9 ⟨fun z => absurd z (by omega), fun _ => ⟨h6, jb, rb, hjb, h6, ja, ra, hja, h6, ⟨by omega, by omega⟩, by omega, ⟨by omega, by omega⟩, by omega, fun z => absurd q z, fun _ => ⟨⟨by omega, by omega⟩, bs _ ⟨by omega, ⟨by omega, by omega⟩, this⟩⟩⟩⟩
    · obtain ⟨hi', e1, e2, e3⟩ := ih (a6 + 1) (zup hi 20 0 ((n + 1) * 48 + st * 16 + a6) V) (some (.inl (zand (zand (hi 21 0 a6) (zxor (hi 23 jb a6) (-1))) (zxor (hi 23 ja a6) (-1))))) (some (.inl (zand (hi 20 0 (n * 48 + st * 16 + a6)) (zxor (hi 22 0 (st * 16 + a6)) (-1))))) (some (.inl (zand (hi 20 0 ((n * 48 + st * 16 - 16) + a6)) (hi 22 0 ((st * 16 - 16) + a6))))) e8 (by omega) (by omega)
      refine ⟨hi', fun q hq => (e1 q hq).trans (zup_kf _ _ _ _ hq), fin hi' e2, fun P hP => ?_⟩
      have := e3 P hP
      rw [eV] at this
      unfold spV at this
      rw [if_neg q] at this
      exact GX4_spreadStage_25 R n st _ _ _ a6 u7 u8 u9 ⟨fun z => absurd z (by omega), fun _ => ⟨h6, jb, rb, hjb, h6, ja, ra, hja, h6, ⟨by omega, by omega⟩, by omega, ⟨by omega, by omega⟩, by omega, fun _ => ⟨⟨by omega, by omega⟩, ⟨by omega, by omega⟩, by omega, ⟨by omega, by omega⟩, ⟨by omega, by omega⟩, by omega, ⟨by omega, by omega⟩, bs _ ⟨by omega, ⟨by omega, by omega⟩, this⟩⟩, fun z => absurd z q⟩⟩
/-- one stage of one step -/
theorem spreadStage_run {hi : zI} {jb ja st : Int} {n : Nat} (R : RSc r) (Y : Yd ln wd k a b (pk v)) (hn : n < 300) (hs : 0 ≤ st ∧ st < 3) (hjb : 0 ≤ jb ∧ jb < 2) (hja : 0 ≤ ja ∧ ja < 2) (rb : r 19 0 3 = some (23, jb)) (ra : r 19 0 4 = some (23, ja)) (e8 : hi 19 0 8 = ln)
    (h1 : SI (hi 21 0) ln wd (opn k a b (pk v))) (h2 : SI (hi 23 jb) ln wd (hld vn pk tr tb te v (t0 + n))) (h3 : SI (hi 23 ja) ln wd (hld vn pk tr tb te v (t0 + n + 1))) (h4 : TuI hi ln wd a b) (h5 : LyI hi ln wd n (rcd ln wd vn k pk tr tb te v a b t0 n)) :
    ∃ hi', (∀ q, q ≠ 20 → hi' q = hi q) ∧ (∀ i, (i < ((n : Int) + 1) * 48 + st * 16 ∨ ((n : Int) + 1) * 48 + st * 16 + ln ≤ i) → hi' 20 0 i = hi 20 0 i) ∧ SI (fun y => hi' 20 0 (((n : Int) + 1) * 48 + st * 16 + y)) ln wd (fun c => rch ln wd vn k pk tr tb te v a b t0 (n + 1) (3 * c + st)) ∧ R1v mX4_spreadStage [.inr (some (19, 0)), .inl n, .inl st] hi r hi' := by
  have hl := Y.1
  have hw := Y.2.1
  obtain ⟨hi', e1, e2, e3⟩ := spread_line (n := n) R hl.2 (by omega) hs hjb hja rb ra ln.toNat 0 hi none none none e8 (by omega) (by omega)
  refine ⟨hi', e1, fun i hi => ?_, fun y x y0 y1 x1 => ?_, fun P hP => ?_⟩
  · rw [e2, if_neg (by omega)]
  · dsimp only
    rw [e2, if_pos (by omega), zacl, spV_bt hw hs ⟨y0, y1⟩ h1 h2 h3 h4 h5 x1]
    refine and_congr_right (fun hx => ?_)
    rw [rch_fwd Y ⟨y0, y1⟩ ⟨by omega, hx⟩ hs, nb4_minus ⟨y0, y1⟩ ⟨by omega, hx⟩]
  · refine GX4_spreadStage n st (rowOf_run (by omega) (by omega) _ ⟨⟨by omega, by omega⟩, rowOf_run (by omega) (by omega) _ (rowOf_run (by omega) (by omega) _ ?_)⟩)
    rw [show (0 * 48 + st * 16 : Int) = st * 16 by omega]
    exact e3 P hP
end ZP
