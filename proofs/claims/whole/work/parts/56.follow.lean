/-- the first step that goes on -/
def fstc (ln wd : Int) (k pk : Int → Int) (v a b : Int) (L : Int → Prop) (p q s0 : Int) : Prop := (0 ≤ s0 ∧ s0 < 5) ∧ ldTo ln wd k a b (pk v) p s0 = q ∧ q ≠ -1 ∧ L q ∧ ∀ s', 0 ≤ s' → s' < s0 → ldTo ln wd k a b (pk v) p s' = -1 ∨ ¬ L (ldTo ln wd k a b (pk v) p s')
theorem least5 {A : Int → Prop} (h : ∃ s, 0 ≤ s ∧ s < 5 ∧ A s) : ∃ s0, (0 ≤ s0 ∧ s0 < 5) ∧ A s0 ∧ ∀ s', 0 ≤ s' → s' < s0 → ¬ A s' := by
  obtain ⟨s, h0, h1, h2⟩ := h
  by_cases q0 : A 0
  · exact ⟨0, by omega, q0, fun s' x y => by omega⟩
  by_cases q1 : A 1
  · exact ⟨1, by omega, q1, fun s' x y => by
      have : s' = 0 := by omega
      rw [this]; exact q0⟩
  by_cases q2 : A 2
  · exact ⟨2, by omega, q2, fun s' x y => by
      have : s' = 0 ∨ s' = 1 := by omega
      rcases this with z | z <;> rw [z] <;> assumption⟩
  by_cases q3 : A 3
  · exact ⟨3, by omega, q3, fun s' x y => by
      have : s' = 0 ∨ s' = 1 ∨ s' = 2 := by omega
      rcases this with z | z | z <;> rw [z] <;> assumption⟩
  have : s = 0 ∨ s = 1 ∨ s = 2 ∨ s = 3 ∨ s = 4 := by omega
  rcases this with z | z | z | z | z
  · rw [z] at h2; exact absurd h2 q0
  · rw [z] at h2; exact absurd h2 q1
  · rw [z] at h2; exact absurd h2 q2
  · rw [z] at h2; exact absurd h2 q3
  · rw [z] at h2
    exact ⟨4, by omega, h2, fun s' x y => by
      have : s' = 0 ∨ s' = 1 ∨ s' = 2 ∨ s' = 3 := by omega
      rcases this with z | z | z | z <;> rw [z] <;> assumption⟩
section ZP
variable {jm ln wd vn v a b t0 : Int} {k pk tr tb te : Int → Int}
theorem fstc_ex {N j : Nat} {p : Int} (h : ldn ln wd vn k pk tr tb te v a b t0 N (j + 1) p) : ∃ q s0, fstc ln wd k pk v a b (ldn ln wd vn k pk tr tb te v a b t0 N j) p q s0 := by
  obtain ⟨h1, q, ⟨s, s0, s1, s2, s3, s4⟩, h3⟩ := h
  obtain ⟨s', x1, x2, x3⟩ := least5 (A := fun s => ldTo ln wd k a b (pk v) p s ≠ -1 ∧ ldn ln wd vn k pk tr tb te v a b t0 N j (ldTo ln wd k a b (pk v) p s)) ⟨s, s0, s1, by rw [s2]; exact s3, by rw [s2]; exact h3⟩
  refine ⟨ldTo ln wd k a b (pk v) p s', s', x1, rfl, x2.1, x2.2, fun s'' y0 y1 => ?_⟩
  by_cases z : ldTo ln wd k a b (pk v) p s'' = -1
  · exact Or.inl z
  · exact Or.inr (fun w => x3 s'' y0 y1 ⟨z, w⟩)
/-- none is in the way of what goes on -/
theorem ldn_clr {N j : Nat} (hj : j + 1 ≤ N) (hg : rch ln wd vn k pk tr tb te v a b t0 N (3 * pk v + 2)) {p q : Int} (h : ldn ln wd vn k pk tr tb te v a b t0 N (j + 1) p) (hq : ldn ln wd vn k pk tr tb te v a b t0 N j q) : clr vn pk tr tb te v (t0 + ((N - (j + 1) : Nat) : Int)) (p / 3) (q / 3) := by
  obtain ⟨h1, q', h2, h3⟩ := h
  have f := ldn_rch hg _ _ hq
  rw [show N - j = (N - (j + 1)) + 1 by omega] at f
  have g := rch_free f
  have c := clr_iff.mp (stp_iff.mp h2).2
  exact clr_iff.mpr ⟨g.1, g.2, c.2.2⟩
/-- what following stands on -/
def FE (c : zI) (r : zR) (jm ln wd v a b : Int) (k pk : Int → Int) : Prop := RSc r ∧ (0 ≤ jm ∧ jm < 2) ∧ r 19 0 5 = some (30, jm) ∧ (c 19 0 7 = wd ∧ c 19 0 11 = a ∧ c 19 0 12 = b) ∧ c 30 jm 5 = ln * wd ∧ Yd ln wd k a b (pk v) ∧ (∀ i, 0 ≤ i → i < ln * wd → ∀ d, 0 ≤ d → d < 4 → c 33 jm (i * 4 + d) = nbr ln wd k i d)
theorem PE.fe {c : zI} {r : zR} (h : PE c r jm ln wd vn v a b t0 k pk tr tb te) : FE c r jm ln wd v a b k pk := by
  obtain ⟨R, hj, r5, r6, ⟨w7, w8, w9, w10, w11, w12, w13⟩, m5, m8, hvn, hv, ht, Y, hk, hu⟩ := h
  exact ⟨R, hj, r5, ⟨w7, w11, w12⟩, m5, Y, fun i i0 i1 => (hk i i0 i1).2⟩
theorem FE.keep {c c' : zI} {r : zR} (h : FE c r jm ln wd v a b k pk) (e : ∀ q, q ≠ 25 → q ≠ 26 → q ≠ 27 → q ≠ 28 → c' q = c q) : FE c' r jm ln wd v a b k pk := by
  unfold FE at h ⊢
  rw [e 19 (by decide) (by decide) (by decide) (by decide), e 30 (by decide) (by decide) (by decide) (by decide), e 33 (by decide) (by decide) (by decide) (by decide)]
  exact h
theorem firstWayOn_from {hi : zI} {r : zR} (E : FE hi r jm ln wd v a b k pk) {n st c d0 x : Int} {L : Int → Prop} (hn : 0 ≤ n ∧ n ≤ 300) (hs : 0 ≤ st ∧ st < 3) (hc : 0 ≤ c ∧ c < ln * wd) (S : LyI hi ln wd n L) (hx : nbr ln wd k c d0 = x) (hx1 : x ≠ -1) (hxL : L (3 * x + st)) (hd : d0 < 4) (hno : ∀ d, 0 ≤ d → d < d0 → nbr ln wd k c d = -1 ∨ ¬ L (3 * nbr ln wd k c d + st)) : ∀ (m : Nat) (d : Int) (u4 : Option zV), d + m = d0 → 0 ≤ d → ∀ P : Int → Prop, P x → WP mX4_firstWayOn 3 [some (.inr (some (19, 0))), some (.inl n), some (.inl st), some (.inl c), some (.inl d), u4] [] hi r (zQ0i hi r P) := by
  obtain ⟨R, hj, r5, ⟨w7, w11, w12⟩, m5, Y, hk⟩ := E
  have hl := Y.1
  have hw := Y.2.1
  have y2 := yd_256 Y
  intro m
  induction m with
  | zero =>
    intro d u4 hm h0 P hP
    have e : d = d0 := by omega
    subst e
    have bx : 0 ≤ x ∧ x < ln * wd := by
      rcases nbr_bd (k := k) (i := c) (d := d) hl.1 hw.1 with z | z
      · rw [hx] at z; exact absurd z hx1
      · rw [hx] at z; exact z
    have cn := cneighbour_run (hi := hi) R hj (l := c) (d := d) (by omega) (by omega) (by omega)
    rw [hk c hc.1 hc.2 d h0 hd, hx] at cn
    exact GX4_firstWayOn_3 n st c d u4 ⟨fun q => absurd q (by omega), fun _ => ⟨jm, r5, hj, cn _ (isReached_run R w7 hw hl.2 (by omega) hs bx S 1 (Or.inl ⟨rfl, hxL⟩) _ ⟨fun q => absurd q (by decide), fun _ => hP⟩)⟩⟩
  | succ m ih =>
    intro d u4 hm h0 P hP
    have cn := cneighbour_run (hi := hi) R hj (l := c) (d := d) (by omega) (by omega) (by omega)
    rw [hk c hc.1 hc.2 d h0 (by omega)] at cn
    have w := ih (d + 1) (some (.inl (nbr ln wd k c d))) (by omega) (by omega) P hP
    have z1 : zInR (d + 1) := ⟨by omega, by omega⟩
    refine GX4_firstWayOn_3 n st c d u4 ⟨fun q => absurd q (by omega), fun _ => ⟨jm, r5, hj, cn _ ?_⟩⟩
    rcases nbr_bd (k := k) (i := c) (d := d) hl.1 hw.1 with z | z
    · exact GX4_isReached R _ _ _ ⟨fun _ => ⟨fun _ => ⟨z1, w⟩, fun q => absurd rfl q⟩, fun q => absurd q (by omega)⟩
    · refine isReached_run R w7 hw hl.2 (by omega) hs z S 0 (Or.inr ⟨rfl, ?_⟩) _ ⟨fun _ => ⟨z1, w⟩, fun q => absurd rfl q⟩
      rcases hno d h0 (by omega) with y | y
      · omega
      · exact y
/-- what a step that goes to another cell is -/
theorem fst_go (Y : Yd ln wd k a b (pk v)) {L : Int → Prop} {c st q s0 : Int} (hc : 0 ≤ c ∧ c < ln * wd) (hs : 0 ≤ st ∧ st < 3) (hL : ∀ q, L q → 0 ≤ q ∧ opn k a b (pk v) (q / 3)) (h : fstc ln wd k pk v a b L (3 * c + st) q s0) (h1 : 1 ≤ s0) :
    nbr ln wd k c (s0 - 1) = q / 3 ∧ q = 3 * (q / 3) + st ∧ (0 ≤ q / 3 ∧ q / 3 < ln * wd) ∧ q / 3 ≠ c ∧ (∀ d, 0 ≤ d → d < s0 - 1 → nbr ln wd k c d = -1 ∨ ¬ L (3 * nbr ln wd k c d + st)) ∧ ¬ L (ldTo ln wd k a b (pk v) (3 * c + st) 0) := by
  obtain ⟨hs0, e, hq, hqL, hno⟩ := h
  obtain ⟨y, x, y0, y1, x0, x1, ec⟩ := gc_of Y.2.1.1 hc.1 hc.2
  have val : ∀ d, 0 ≤ d → d < 4 → ldTo ln wd k a b (pk v) (3 * c + st) (d + 1) ≠ -1 → nbr ln wd k c d = (y + dY d) * wd + (x + dX d) ∧ ldTo ln wd k a b (pk v) (3 * c + st) (d + 1) = 3 * ((y + dY d) * wd + (x + dX d)) + st ∧ (0 ≤ (y + dY d) * wd + (x + dX d) ∧ (y + dY d) * wd + (x + dX d) < ln * wd) ∧ (y + dY d) * wd + (x + dX d) ≠ c := by
    intro d d0 d1 hne
    rw [ec] at hne ⊢
    rcases ldTo_go (d := d) Y ⟨y0, y1⟩ ⟨x0, x1⟩ hs ⟨d0, d1⟩ with ⟨w, z⟩ | ⟨-, z⟩
    · refine ⟨?_, z, gc_in w.1 w.2.1 w.2.2.1 w.2.2.2.1, fun u => ?_⟩
      · rw [nbr_at k x0 x1, if_neg]
        rintro (u | u | u | u | u)
        · omega
        · omega
        · omega
        · omega
        · obtain ⟨-, -, -, ha, hb, hp⟩ := Y
          rcases w.2.2.2.2 with o | o | o | o
          · omega
          · rw [o] at u; exact ha.2.2 u
          · rw [o] at u; exact hb.2.2 u
          · rw [o] at u; exact hp.2.2 u
      · have := gc_inj w.2.2.1 w.2.2.2.1 x0 x1 u
        rcases dYX d ⟨d0, d1⟩ with z | z | z | z <;> omega
    · exact absurd z hne
  have e1 : s0 = (s0 - 1) + 1 := by omega
  have ge := val (s0 - 1) (by omega) (by omega) (by rw [← e1, e]; exact hq)
  rw [← e1, e] at ge
  have q3 : q / 3 = (y + dY (s0 - 1)) * wd + (x + dX (s0 - 1)) := by omega
  refine ⟨by rw [q3]; exact ge.1, by omega, by rw [q3]; exact ge.2.2.1, by rw [q3]; exact ge.2.2.2, fun d d0 d1 => ?_, ?_⟩
  · rcases hno (d + 1) (by omega) (by omega) with z | z
    · by_cases w : nbr ln wd k c d = -1
      · exact Or.inl w
      · refine Or.inr (fun u => ?_)
        -- what is reached there is open, so the step leads there
        have o := (hL _ u).2
        have bn : 0 ≤ nbr ln wd k c d ∧ nbr ln wd k c d < ln * wd := by
          rcases nbr_bd (k := k) (i := c) (d := d) Y.1.1 Y.2.1.1 with t | t
          · exact absurd t w
          · exact t
        rw [show (3 * nbr ln wd k c d + st) / 3 = nbr ln wd k c d by omega] at o
        rw [ec, nbr_at k x0 x1] at w o
        rcases ldTo_go (d := d) Y ⟨y0, y1⟩ ⟨x0, x1⟩ hs ⟨d0, by omega⟩ with ⟨t, t2⟩ | ⟨t, t2⟩
        · rw [← ec, z] at t2
          have := gc_in t.1 t.2.1 t.2.2.1 t.2.2.2.1
          omega
        · by_cases cnd : y + dY d < 0 ∨ ln ≤ y + dY d ∨ x + dX d < 0 ∨ wd ≤ x + dX d ∨ k ((y + dY d) * wd + (x + dX d)) = 0
          · rw [if_pos cnd] at w; exact w rfl
          · rw [if_neg cnd] at o
            exact t ⟨by omega, by omega, by omega, by omega, o⟩
    · by_cases w : nbr ln wd k c d = -1
      · exact Or.inl w
      · refine Or.inr (fun u => ?_)
        by_cases hne : ldTo ln wd k a b (pk v) (3 * c + st) (d + 1) = -1
        · have o := (hL _ u).2
          have bn : 0 ≤ nbr ln wd k c d ∧ nbr ln wd k c d < ln * wd := by
            rcases nbr_bd (k := k) (i := c) (d := d) Y.1.1 Y.2.1.1 with t | t
            · exact absurd t w
            · exact t
          rw [show (3 * nbr ln wd k c d + st) / 3 = nbr ln wd k c d by omega] at o
          rw [ec, nbr_at k x0 x1] at w o
          rcases ldTo_go (d := d) Y ⟨y0, y1⟩ ⟨x0, x1⟩ hs ⟨d0, by omega⟩ with ⟨t, t2⟩ | ⟨t, t2⟩
          · rw [← ec, hne] at t2
            have := gc_in t.1 t.2.1 t.2.2.1 t.2.2.2.1
            omega
          · by_cases cnd : y + dY d < 0 ∨ ln ≤ y + dY d ∨ x + dX d < 0 ∨ wd ≤ x + dX d ∨ k ((y + dY d) * wd + (x + dX d)) = 0
            · rw [if_pos cnd] at w; exact w rfl
            · rw [if_neg cnd] at o
              exact t ⟨by omega, by omega, by omega, by omega, o⟩
        · have gd := val d d0 (by omega) hne
          rw [gd.2.1, ← gd.1] at z
          exact z u
  · rcases hno 0 (by omega) (by omega) with z | z
    · rcases ldTo_stay (ln := ln) (wd := wd) (k := k) (a := a) (b := b) (pa := pk v) hc.1 hs with ⟨-, w⟩ | ⟨-, w⟩ <;> omega
    · exact z
end ZP
