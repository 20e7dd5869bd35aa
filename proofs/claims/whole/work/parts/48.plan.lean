/-- what the planner stands on -/
def PE (c : zI) (r : zR) (jm ln wd vn v a b t0 : Int) (k pk tr tb te : Int → Int) : Prop :=
  RSc r ∧ (0 ≤ jm ∧ jm < 2) ∧ r 19 0 5 = some (30, jm) ∧ r 19 0 6 = some (18, 0) ∧ (c 19 0 7 = wd ∧ c 19 0 8 = ln ∧ c 19 0 9 = v ∧ c 19 0 10 = t0 ∧ c 19 0 11 = a ∧ c 19 0 12 = b ∧ c 19 0 13 = pk v) ∧ c 30 jm 5 = ln * wd ∧ c 30 jm 8 = vn ∧ (1 ≤ vn ∧ vn ≤ 6) ∧ (0 ≤ v ∧ v < vn) ∧ (0 ≤ t0 ∧ t0 ≤ 600) ∧ Yd ln wd k a b (pk v) ∧
  (∀ i, 0 ≤ i → i < ln * wd → c 31 jm i = k i ∧ ∀ d, 0 ≤ d → d < 4 → c 33 jm (i * 4 + d) = nbr ln wd k i d) ∧
  (∀ u, 0 ≤ u → u < vn → (0 ≤ c 25 u 3 ∧ c 25 u 3 ≤ 600) ∧ c 25 u 4 ≤ 300 ∧ ∀ t, (0 ≤ tAt pk tr tb te u t ∧ tAt pk tr tb te u t < ln * wd) ∧ ((tAt pk tr tb te u t = c 26 u (t - c 25 u 3) ∧ 0 < t - c 25 u 3 ∧ t - c 25 u 3 < c 25 u 4) ∨ (tAt pk tr tb te u t = c 25 u 2 ∧ ¬ (0 < t - c 25 u 3 ∧ t - c 25 u 3 < c 25 u 4))))
/-- the planner's own sets alone change -/
def plE (c c' : zI) : Prop := ∀ k, k ≠ 20 → k ≠ 21 → k ≠ 22 → k ≠ 23 → c' k = c k
theorem plE.refl (c : zI) : plE c c := fun _ _ _ _ _ => rfl
theorem plE.trans {a b c : zI} (h : plE a b) (h' : plE b c) : plE a c := fun k x y z w => (h' k x y z w).trans (h k x y z w)
theorem plE.of1 {c c' : zI} {k0 : Nat} (h : ∀ k, k ≠ k0 → c' k = c k) (hk : k0 = 20 ∨ k0 = 21 ∨ k0 = 22 ∨ k0 = 23) : plE c c' := fun k x y z w => h k (by omega)
section ZP
variable {jm ln wd vn v a b t0 : Int} {k pk tr tb te : Int → Int} {r : zR}
theorem PE.keep {c c' : zI} (h : PE c r jm ln wd vn v a b t0 k pk tr tb te) (e : plE c c') : PE c' r jm ln wd vn v a b t0 k pk tr tb te := by
  unfold PE at h ⊢
  rw [e 19 (by decide) (by decide) (by decide) (by decide), e 30 (by decide) (by decide) (by decide) (by decide), e 31 (by decide) (by decide) (by decide) (by decide), e 33 (by decide) (by decide) (by decide) (by decide), e 25 (by decide) (by decide) (by decide) (by decide), e 26 (by decide) (by decide) (by decide) (by decide)]
  exact h
theorem PE.swap {c : zI} (h : PE c r jm ln wd vn v a b t0 k pk tr tb te) (x y : Option (Nat × Int)) : PE c (zupR (zupR r 19 0 3 x) 19 0 4 y) jm ln wd vn v a b t0 k pk tr tb te := by
  obtain ⟨h1, h2, h3, h4, h5⟩ := h
  exact ⟨h1, h2, h3, h4, h5⟩
def TuI (hi : zI) (ln wd a b : Int) : Prop := SI (hi 22 0) ln wd (fun p => trn a b (p % 3) (p / 3))
def LyI (hi : zI) (ln wd n : Int) (X : Int → Prop) : Prop := SI (fun y => hi 20 0 (n * 16 + y)) ln wd X
theorem p3 {c st : Int} (h0 : 0 ≤ st) (h1 : st < 3) : (3 * c + st) / 3 = c ∧ (3 * c + st) % 3 = st := by omega
theorem Turns_mark {hi h1 h2 : zI} (hw : 1 ≤ wd ∧ wd ≤ 16) (hl : ln ≤ 16) (h0 : ∀ i, 0 ≤ i → i < 16 → hi 22 0 i = 0)
    (e1 : h1 = zup hi 22 0 (0 * 16 + a / wd) (zlor (hi 22 0 (0 * 16 + a / wd)) (zlshl 1 (0 * 20 + a % wd)))) (e2 : h2 = zup h1 22 0 (0 * 16 + b / wd) (zlor (h1 22 0 (0 * 16 + b / wd)) (zlshl 1 (1 * 20 + b % wd)))) : TuI h2 ln wd a b := by
  have emp : SI (hi 22 0) ln wd (fun _ => False) := SI.empty (fun y y0 y1 => h0 _ (by omega) (by omega))
  have at' : ∀ (g g' : zI) (c z : Int), g' = zup g 22 0 (0 * 16 + c / wd) (zlor (g 22 0 (0 * 16 + c / wd)) z) → ∀ y, 0 ≤ y → y < ln → g' 22 0 y = if y = c / wd then zlor (g 22 0 y) z else g 22 0 y := by
    intro g g' c z e y _ _
    rw [e, zup_at]
    by_cases q : y = c / wd
    · rw [if_pos (by omega), if_pos q, q, show (0 * 16 + c / wd : Int) = c / wd by omega]
    · rw [if_neg (by omega), if_neg q]
  refine ((emp.mark (c := a) (s := 0) hw (by omega) (at' _ _ _ _ e1)).mark (c := b) (s := 1) hw (by omega) (at' _ _ _ _ e2)).cong (fun _ _ _ => rfl) (fun y x st _ _ _ _ s0 s1 => ?_)
  have e := p3 (c := y * wd + x) s0 s1
  rw [e.1, e.2]
  unfold trn
  constructor
  · rintro (z | z)
    · exact Or.inl (Or.inr (by omega))
    · exact Or.inr (by omega)
  · rintro ((z | z) | z)
    · exact z.elim
    · exact Or.inl (by omega)
    · exact Or.inr (by omega)
theorem ground_from : ∀ (n : Nat) (a1 : Int) (hi : zI), a1 + n = ln * wd → 0 ≤ a1 → PE hi r jm ln wd vn v a b t0 k pk tr tb te → SI (hi 21 0) ln wd (fun p => p / 3 < a1 ∧ opn k a b (pk v) (p / 3)) →
    ∃ hi', (∀ q, q ≠ 21 → q ≠ 22 → hi' q = hi q) ∧ SI (hi' 21 0) ln wd (fun p => opn k a b (pk v) (p / 3)) ∧ TuI hi' ln wd a b ∧ ∀ P : zI → Prop, P hi' → WP mX4_markGround 10 [some (.inr (some (19, 0))), some (.inl a1)] [] hi r (zQ1v r P) := by
  intro n
  induction n with
  | zero =>
    intro a1 hi hn h0 E S
    obtain ⟨R, hj, r5, r6, ⟨w7, w8, w9, w10, w11, w12, w13⟩, m5, m8, hvn, hv, ht, Y, hk, hu⟩ := E
    obtain ⟨hl, hw, hkk, ha, hb, hp⟩ := Y
    have e : a1 = ln * wd := by omega
    obtain ⟨g0, e0⟩ : ∃ g0, g0 = zfil hi 22 0 0 16 0 := ⟨_, rfl⟩
    obtain ⟨g1, e1⟩ : ∃ g1, g1 = zup g0 22 0 (0 * 16 + a / wd) (zlor (g0 22 0 (0 * 16 + a / wd)) (zlshl 1 (0 * 20 + a % wd))) := ⟨_, rfl⟩
    obtain ⟨g2, e2⟩ : ∃ g2, g2 = zup g1 22 0 (0 * 16 + b / wd) (zlor (g1 22 0 (0 * 16 + b / wd)) (zlshl 1 (1 * 20 + b % wd))) := ⟨_, rfl⟩
    have k0 : ∀ q, q ≠ 22 → g0 q = hi q := by
      intro q q2
      rw [e0]
      funext j s
      show (if q = 22 ∧ j = 0 ∧ 0 ≤ s ∧ s < 16 then 0 else hi q j s) = hi q j s
      rw [if_neg (fun z => q2 z.1)]
    have k1 : ∀ q, q ≠ 22 → g1 q = hi q := fun q q2 => by rw [e1, zup_kf _ _ _ _ q2, k0 q q2]
    have k2 : ∀ q, q ≠ 22 → g2 q = hi q := fun q q2 => by rw [e2, zup_kf _ _ _ _ q2, k1 q q2]
    refine ⟨g2, fun q q1 q2 => k2 q q2, ?_, Turns_mark hw hl.2 (fun i i0 i1 => ?_) e1 e2, ?_⟩
    · rw [k2 21 (by decide)]
      refine S.cong (fun y _ _ => rfl) (fun y x st y0 y1 x0 x1 s0 s1 => ?_)
      have := gc_in y0 y1 x0 x1
      have e3 := p3 (c := y * wd + x) s0 s1
      rw [e3.1]
      exact ⟨fun z => ⟨by omega, z⟩, fun z => z.2⟩
    · rw [e0]
      show (if 22 = 22 ∧ (0 : Int) = 0 ∧ 0 ≤ i ∧ i < 16 then 0 else hi 22 0 i) = 0
      rw [if_pos ⟨rfl, rfl, i0, i1⟩]
    · intro P hP
      refine GX4_markGround_10 R a1 ⟨jm, r5, hj, fun _ => ?_, fun q => absurd q (by omega)⟩
      refine GJ7_fill_d0a16_Turns 0 (fill_Turns 16 hi 0 (by omega) (by omega) _ ?_)
      rw [← e0]
      have f11 : g0 19 0 11 = a := by rw [k0 19 (by decide)]; exact w11
      rw [f11]
      refine mark_Turns (ln := ln) (wd := wd) (by rw [k0 19 (by decide)]; exact w7) hw hl.2 (by omega) ⟨ha.1, ha.2.1⟩ _ ?_
      rw [← e1]
      have f12 : g1 19 0 12 = b := by rw [k1 19 (by decide)]; exact w12
      rw [f12]
      refine mark_Turns (ln := ln) (wd := wd) (by rw [k1 19 (by decide)]; exact w7) hw hl.2 (by omega) ⟨hb.1, hb.2.1⟩ _ ?_
      rw [← e2]
      exact hP
  | succ n ih =>
    intro a1 hi hn h0 E S
    have E0 := E
    obtain ⟨R, hj, r5, r6, ⟨w7, w8, w9, w10, w11, w12, w13⟩, m5, m8, hvn, hv, ht, Y, hk, hu⟩ := E
    obtain ⟨hl, hw, hkk, ha, hb, hp⟩ := Y
    have ac : 0 ≤ a1 ∧ a1 < ln * wd := by omega
    have hmx : ln * wd ≤ 256 := by
      have := Int.mul_le_mul hl.2 hw.2 (by omega) (by omega)
      omega
    have z1 : zInR (a1 + 1) := ⟨by omega, by omega⟩
    have kd := (hk a1 ac.1 ac.2).1
    by_cases o : opn k a b (pk v) a1
    · obtain ⟨g, x1, x2, x3, x4⟩ := markAll_Open (hr := r) (ln := ln) w7 hw hl.2 ac S
      have S' : SI (g 21 0) ln wd (fun p => p / 3 < a1 + 1 ∧ opn k a b (pk v) (p / 3)) := by
        refine x3.cong (fun _ _ _ => rfl) (fun y x st y0 y1 x0 x1 s0 s1 => ?_)
        have e3 := p3 (c := y * wd + x) s0 s1
        rw [e3.1]
        constructor
        · intro z
          by_cases q : y * wd + x = a1
          · exact Or.inr q
          · exact Or.inl ⟨by omega, z.2⟩
        · rintro (z | z)
          · exact ⟨by omega, z.2⟩
          · exact ⟨by omega, by rw [z]; exact o⟩
      obtain ⟨hi', e1, e2, e3, e4⟩ := ih (a1 + 1) g (by omega) (by omega) (E0.keep (plE.of1 (k0 := 21) x1 (by decide))) S'
      refine ⟨hi', fun q q1 q2 => (e1 q q1 q2).trans (x1 q q1), e2, e3, fun P hP => ?_⟩
      have mk : W1v mX4_markAllStages [.inr (some (19, 0)), .inr (some (21, 0)), .inl a1] hi r (fun hi16 => zInR (a1 + 1) ∧ WP mX4_markGround 10 [some (.inr (some (19, 0))), some (.inl (a1 + 1))] [] hi16 r (zQ1v r P)) := x4 _ ⟨z1, e4 P hP⟩
      refine GX4_markGround_10 R a1 ⟨jm, r5, hj, fun q => absurd q (by omega), fun _ => kindOf_run R hj (by omega) (k a1) (Or.inl ⟨kd.symm, ac.1, by omega⟩) _ ⟨fun _ => mk, fun q1 => ⟨fun _ => mk, fun q2 => ⟨fun _ => mk, fun q3 => ⟨fun q4 => ?_, fun _ => mk⟩⟩⟩⟩⟩
      exfalso
      unfold opn at o
      omega
    · have S' : SI (hi 21 0) ln wd (fun p => p / 3 < a1 + 1 ∧ opn k a b (pk v) (p / 3)) := by
        refine S.cong (fun _ _ _ => rfl) (fun y x st y0 y1 x0 x1 s0 s1 => ?_)
        have e3 := p3 (c := y * wd + x) s0 s1
        rw [e3.1]
        constructor
        · intro z
          refine ⟨?_, z.2⟩
          by_cases q : y * wd + x = a1
          · rw [q] at z; exact absurd z.2 o
          · omega
        · exact fun z => ⟨by omega, z.2⟩
      obtain ⟨hi', e1, e2, e3, e4⟩ := ih (a1 + 1) hi (by omega) (by omega) E0 S'
      refine ⟨hi', e1, e2, e3, fun P hP => ?_⟩
      unfold opn at o
      exact GX4_markGround_10 R a1 ⟨jm, r5, hj, fun q => absurd q (by omega), fun _ => kindOf_run R hj (by omega) (k a1) (Or.inl ⟨kd.symm, ac.1, by omega⟩) _ ⟨fun q => absurd (Or.inl q) o, fun q1 => ⟨fun q => absurd (Or.inr (Or.inl (q.trans w11))) o, fun q2 => ⟨fun q => absurd (Or.inr (Or.inr (Or.inl (q.trans w12)))) o, fun q3 => ⟨fun q4 => ⟨z1, e4 P hP⟩, fun q => absurd (Or.inr (Or.inr (Or.inr (q.trans w13)))) o⟩⟩⟩⟩⟩
theorem markGround_run {hi : zI} (E : PE hi r jm ln wd vn v a b t0 k pk tr tb te) : ∃ hi', (∀ q, q ≠ 21 → q ≠ 22 → hi' q = hi q) ∧ SI (hi' 21 0) ln wd (fun p => opn k a b (pk v) (p / 3)) ∧ TuI hi' ln wd a b ∧ R1v mX4_markGround [.inr (some (19, 0))] hi r hi' := by
  have E0 := E
  obtain ⟨R, hj, r5, r6, ⟨w7, w8, w9, w10, w11, w12, w13⟩, m5, m8, hvn, hv, ht, Y, hk, hu⟩ := E
  have hl := Y.1
  have hw := Y.2.1
  have h0 : 0 ≤ ln * wd := Int.mul_nonneg (by omega) (by omega)
  have fz : ∀ q, q ≠ 21 → zfil hi 21 0 0 16 0 q = hi q := by
    intro q hq
    funext j s
    show (if q = 21 ∧ j = 0 ∧ 0 ≤ s ∧ s < 16 then 0 else hi q j s) = hi q j s
    rw [if_neg (fun z => hq z.1)]
  obtain ⟨hi', e1, e2, e3, e4⟩ := ground_from (ln * wd).toNat 0 (zfil hi 21 0 0 16 0) (by omega) (by omega) (E0.keep (plE.of1 fz (by decide))) (by
    refine (SI.empty (fun y y0 y1 => ?_)).cong (fun _ _ _ => rfl) (fun y x st y0 y1 x0 x1 s0 s1 => ?_)
    · show (if 21 = 21 ∧ (0 : Int) = 0 ∧ 0 ≤ y ∧ y < 16 then 0 else hi 21 0 y) = 0
      rw [if_pos ⟨rfl, rfl, y0, by omega⟩]
    · have := gc_in y0 y1 x0 x1
      exact ⟨fun z => by omega, fun z => z.elim⟩)
  exact ⟨hi', fun q q1 q2 => (e1 q q1 q2).trans (fz q q1), e2, e3, fun P hP => GX4_markGround R (GJ7_fill_d0a16_Open 0 (fill_Open 16 hi 0 (by omega) (by omega) _ (e4 P hP)))⟩
theorem held_from {t j : Int} (ht : 0 ≤ t ∧ t ≤ 1000) (hj : 0 ≤ j ∧ j < 2) (rj : r 19 0 4 = some (23, j)) : ∀ (n : Nat) (a2 : Int) (hi : zI), a2 + n = vn → 0 ≤ a2 → PE hi r jm ln wd vn v a b t0 k pk tr tb te → SI (hi 23 j) ln wd (fun p => ∃ u, 0 ≤ u ∧ u < a2 ∧ u ≠ v ∧ tAt pk tr tb te u t = p / 3) →
    ∃ hi', (∀ q, q ≠ 23 → hi' q = hi q) ∧ (∀ i, i ≠ j → hi' 23 i = hi 23 i) ∧ SI (hi' 23 j) ln wd (fun p => hld vn pk tr tb te v t (p / 3)) ∧ ∀ P : zI → Prop, P hi' → WP mX4_markHeld 10 [some (.inr (some (19, 0))), some (.inl t), some (.inl a2)] [] hi r (zQ1v r P) := by
  intro n
  induction n with
  | zero =>
    intro a2 hi hn h0 E S
    obtain ⟨R, hjm, r5, r6, ⟨w7, w8, w9, w10, w11, w12, w13⟩, m5, m8, hvn, hv, ht, Y, hk, hu⟩ := E
    have e : a2 = vn := by omega
    subst e
    exact ⟨hi, fun _ _ => rfl, fun _ _ => rfl, S, fun P hP => GX4_markHeld_10 R t a2 ⟨jm, r5, hjm, fun _ => hP, fun q => absurd q (by omega)⟩⟩
  | succ n ih =>
    intro a2 hi hn h0 E S
    have E0 := E
    obtain ⟨R, hjm, r5, r6, ⟨w7, w8, w9, w10, w11, w12, w13⟩, m5, m8, hvn, hv, ht0, Y, hk, hu⟩ := E
    have hl := Y.1
    have hw := Y.2.1
    have z1 : zInR (a2 + 1) := ⟨by omega, by omega⟩
    by_cases q : a2 = v
    · obtain ⟨hi', e1, e2, e3, e4⟩ := ih (a2 + 1) hi (by omega) (by omega) E0 (S.cong (fun _ _ _ => rfl) (fun y x st _ _ _ _ _ _ => ⟨fun ⟨u, u1, u2, u3, u4⟩ => ⟨u, u1, by omega, u3, u4⟩, fun ⟨u, u1, u2, u3, u4⟩ => ⟨u, u1, by omega, u3, u4⟩⟩))
      exact ⟨hi', e1, e2, e3, fun P hP => GX4_markHeld_10 R t a2 ⟨jm, r5, hjm, fun z => absurd z (by omega), fun _ => ⟨r6, fun z => absurd z (by omega), fun _ => ⟨fun _ => ⟨z1, e4 P hP⟩, fun z => absurd (q.trans w9.symm) z⟩⟩⟩⟩
    · obtain ⟨u1, u2, u3⟩ := hu a2 h0 (by omega)
      obtain ⟨u4, u5⟩ := u3 t
      obtain ⟨cl, ecl⟩ : ∃ cl, cl = tAt pk tr tb te a2 t := ⟨_, rfl⟩
      rw [← ecl] at u4 u5
      obtain ⟨g, x1, x2, x3, x4⟩ := markAll_Held (hr := r) (ln := ln) w7 hw hl.2 u4 S
      have S' : SI (g 23 j) ln wd (fun p => ∃ u, 0 ≤ u ∧ u < a2 + 1 ∧ u ≠ v ∧ tAt pk tr tb te u t = p / 3) := by
        refine x3.cong (fun _ _ _ => rfl) (fun y x st y0 y1 x0 x1 s0 s1 => ?_)
        constructor
        · rintro ⟨u, z1, z2, z3, z4⟩
          by_cases p : u = a2
          · exact Or.inr (by rw [← z4, p, ecl])
          · exact Or.inl ⟨u, z1, by omega, z3, z4⟩
        · rintro (⟨u, z1, z2, z3, z4⟩ | z)
          · exact ⟨u, z1, by omega, z3, z4⟩
          · exact ⟨a2, h0, by omega, q, ecl.symm.trans z.symm⟩
      obtain ⟨hi', e1, e2, e3, e4⟩ := ih (a2 + 1) g (by omega) (by omega) (E0.keep (plE.of1 (k0 := 23) x1 (by decide))) S'
      refine ⟨hi', fun q hq => (e1 q hq).trans (x1 q hq), fun i hi => (e2 i hi).trans (x2 i hi), e3, fun P hP => ?_⟩
      refine GX4_markHeld_10 R t a2 ⟨jm, r5, hjm, fun z => absurd z (by omega), fun _ => ⟨r6, fun z => absurd z (by omega), fun _ => ⟨fun z => absurd (z.trans w9) q, fun _ => ⟨j, rj, hj, by omega, ?_⟩⟩⟩⟩
      refine cellAt_run R (by omega) u1 u2 ht.1 ⟨by omega, by omega⟩ cl u5 _ ?_
      exact x4 _ ⟨z1, e4 P hP⟩
theorem markHeld_run {hi : zI} {t j : Int} (ht : 0 ≤ t ∧ t ≤ 1000) (hj : 0 ≤ j ∧ j < 2) (rj : r 19 0 4 = some (23, j)) (E : PE hi r jm ln wd vn v a b t0 k pk tr tb te) : ∃ hi', (∀ q, q ≠ 23 → hi' q = hi q) ∧ (∀ i, i ≠ j → hi' 23 i = hi 23 i) ∧ SI (hi' 23 j) ln wd (fun p => hld vn pk tr tb te v t (p / 3)) ∧ R1v mX4_markHeld [.inr (some (19, 0)), .inl t] hi r hi' := by
  have hl := E.2.2.2.2.2.2.2.2.2.2.1.1
  have hvn := E.2.2.2.2.2.2.2.1
  have fz : ∀ q, q ≠ 23 → zfil hi 23 j 0 16 0 q = hi q := by
    intro q hq
    funext i s
    show (if q = 23 ∧ i = j ∧ 0 ≤ s ∧ s < 16 then 0 else hi q i s) = hi q i s
    rw [if_neg (fun z => hq z.1)]
  have fi : ∀ i, i ≠ j → zfil hi 23 j 0 16 0 23 i = hi 23 i := by
    intro i hq
    funext s
    show (if 23 = 23 ∧ i = j ∧ 0 ≤ s ∧ s < 16 then 0 else hi 23 i s) = hi 23 i s
    rw [if_neg (fun z => hq z.2.1)]
  obtain ⟨hi', e1, e2, e3, e4⟩ := held_from ht hj rj vn.toNat 0 (zfil hi 23 j 0 16 0) (by omega) (by omega) (E.keep (plE.of1 fz (by decide))) (by
    refine (SI.empty (fun y y0 y1 => ?_)).cong (fun _ _ _ => rfl) (fun y x st y0 y1 x0 x1 s0 s1 => ?_)
    · show (if 23 = 23 ∧ j = j ∧ 0 ≤ y ∧ y < 16 then 0 else hi 23 j y) = 0
      rw [if_pos ⟨rfl, rfl, y0, by omega⟩]
    · exact ⟨fun ⟨u, z1, z2, _⟩ => by omega, fun z => z.elim⟩)
  exact ⟨hi', fun q hq => (e1 q hq).trans (fz q hq), fun i hi => (e2 i hi).trans (fi i hi), e3, fun P hP => GX4_markHeld t ⟨j, rj, hj, GJ7_fill_d0a16_Held j 0 (fill_Held j 16 hi 0 (by omega) (by omega) _ (e4 P hP))⟩⟩
end ZP
