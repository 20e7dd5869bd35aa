theorem parkingCell_run {c : zI} {r : zR} (R : RSc r) {j v : Int} (hj : 0 ≤ j ∧ j < 2) (hv : 0 ≤ v ∧ v < 6) : R0i mX10_parkingCell [.inr (some (30, j)), .inl v] c r (if v < c 30 j 8 then c 35 j v else -1) := by
  intro P hP
  refine GX10_parkingCell R j v hj ⟨fun z => absurd z (by omega), fun _ => ⟨fun z => ?_, fun z => ⟨fun w => absurd w (by omega), fun _ => ⟨hv, ?_⟩⟩⟩⟩
  · rw [if_neg (by omega)] at hP; exact hP
  · rw [if_pos z] at hP; exact hP
/-- an account begun anew -/
def cAc (c : zI) (v p : Int) : zI := zup (zup (zup (zup (zup (zup (cBg c v p 0) 24 v 1 0) 24 v 2 (-1)) 24 v 3 0) 24 v 4 0) 24 v 5 0) 24 v 6 0
theorem cAc_k (c : zI) (v p : Int) {q : Nat} (h1 : q ≠ 24) (h2 : q ≠ 25) (h3 : q ≠ 26) : cAc c v p q = c q := by
  unfold cAc
  rw [zup_kf _ _ _ _ h1, zup_kf _ _ _ _ h1, zup_kf _ _ _ _ h1, zup_kf _ _ _ _ h1, zup_kf _ _ _ _ h1, zup_kf _ _ _ _ h1, cBg_k _ _ _ _ h2 h3]
theorem cAc_j (c : zI) (v p : Int) {q : Nat} {u : Int} (h : u ≠ v) : cAc c v p q u = c q u := by
  unfold cAc
  funext s
  rw [zup_j _ _ _ _ _ _ h, zup_j _ _ _ _ _ _ h, zup_j _ _ _ _ _ _ h, zup_j _ _ _ _ _ _ h, zup_j _ _ _ _ _ _ h, zup_j _ _ _ _ _ _ h, cBg_j _ _ _ _ h]
theorem cAc_24 (c : zI) (v p : Int) : cAc c v p 24 v 1 = 0 ∧ cAc c v p 24 v 2 = -1 ∧ cAc c v p 24 v 3 = 0 ∧ cAc c v p 24 v 4 = 0 ∧ cAc c v p 24 v 5 = 0 ∧ cAc c v p 24 v 6 = 0 := by
  unfold cAc
  simp only [zup_at]
  exact ⟨rfl, rfl, rfl, rfl, rfl, rfl⟩
theorem cAc_25 (c : zI) (v p : Int) : cAc c v p 25 v 2 = p ∧ cAc c v p 25 v 3 = 0 ∧ cAc c v p 25 v 4 = 0 ∧ cAc c v p 25 v 5 = 0 := by
  have e : cAc c v p 25 = cBg c v p 0 25 := by
    unfold cAc
    rw [zup_kf _ _ _ _ (by decide), zup_kf _ _ _ _ (by decide), zup_kf _ _ _ _ (by decide), zup_kf _ _ _ _ (by decide), zup_kf _ _ _ _ (by decide), zup_kf _ _ _ _ (by decide)]
  rw [e]
  have := cBg_25 c v p 0
  exact ⟨this.1, this.2.1, this.2.2.1, this.2.2.2.1⟩
section ZN
variable {j : Int} {r : zR}
theorem acc_from (R : RSc r) (hj : 0 ≤ j ∧ j < 2) : ∀ (n : Nat) (v : Int) (c : zI), v + n = 6 → 0 ≤ v →
    ∃ c', (∀ q, q ≠ 24 → q ≠ 25 → q ≠ 26 → c' q = c q) ∧ (∀ u, u < v → c' 24 u = c 24 u ∧ c' 25 u = c 25 u) ∧ (∀ u, v ≤ u → u < 6 → (c' 24 u 1 = 0 ∧ c' 24 u 2 = -1 ∧ c' 24 u 3 = 0 ∧ c' 24 u 4 = 0 ∧ c' 24 u 5 = 0 ∧ c' 24 u 6 = 0) ∧ (c' 25 u 2 = (if u < c 30 j 8 then c 35 j u else -1) ∧ c' 25 u 3 = 0 ∧ c' 25 u 4 = 0 ∧ c' 25 u 5 = 0)) ∧
      ∀ P : zI → Prop, P c' → WP mX1_beginAnew 25 [some (.inr (some (17, 0))), some (.inr (some (30, j))), some (.inl v)] [] c r (zQ1v r P) := by
  intro n
  induction n with
  | zero =>
    intro v c hn h0
    exact ⟨c, fun _ _ _ _ => rfl, fun _ _ => ⟨rfl, rfl⟩, fun u a b => by omega, fun P hP => GX1_beginAnew_25 R j v hj ⟨fun _ => hP, fun z => absurd z (by omega)⟩⟩
  | succ n ih =>
    intro v c hn h0
    obtain ⟨p, ep⟩ : ∃ p, p = (if v < c 30 j 8 then c 35 j v else -1) := ⟨_, rfl⟩
    obtain ⟨c', a1, a2, a3, a4⟩ := ih (v + 1) (cAc c v p) (by omega) (by omega)
    have k30 := cAc_k c v p (q := 30) (by decide) (by decide) (by decide)
    have k35 := cAc_k c v p (q := 35) (by decide) (by decide) (by decide)
    refine ⟨c', fun q x y z => (a1 q x y z).trans (cAc_k c v p x y z), fun u hu => ?_, fun u b1 b2 => ?_, fun P hP => ?_⟩
    · rw [(a2 u (by omega)).1, (a2 u (by omega)).2, cAc_j _ _ _ (by omega), cAc_j _ _ _ (by omega)]
      exact ⟨rfl, rfl⟩
    · by_cases q : u = v
      · subst q
        rw [(a2 u (by omega)).1, (a2 u (by omega)).2, ← ep]
        exact ⟨cAc_24 c u p, cAc_25 c u p⟩
      · have := a3 u (by omega) b2
        rw [k30, k35] at this
        exact this
    · have pr := parkingCell_run (c := c) R (v := v) hj (by omega)
      rw [← ep] at pr
      exact GX1_beginAnew_25 R j v hj ⟨fun z => absurd z (by omega), fun _ => ⟨by omega, pr _ (GX0_beginAnew R v p (by omega) (GX6_begin R v p 0 (by omega) ⟨⟨by omega, by omega⟩, a4 P hP⟩))⟩⟩
def cVh (c : zI) (v p : Int) : zI := zup (zup (zup (zup (zup (zup c 36 v 0 p) 36 v 1 0) 36 v 2 0) 36 v 3 0) 36 v 4 (-1)) 36 v 5 0
theorem cVh_36 (c : zI) (v p : Int) : cVh c v p 36 v 0 = p ∧ cVh c v p 36 v 1 = 0 ∧ cVh c v p 36 v 2 = 0 ∧ cVh c v p 36 v 3 = 0 ∧ cVh c v p 36 v 5 = 0 := by
  unfold cVh
  simp only [zup_at]
  exact ⟨rfl, rfl, rfl, rfl, rfl⟩
theorem veh_from (R : RSc r) (rj : r 1 0 6 = some (30, j)) (hj : 0 ≤ j ∧ j < 2) : ∀ (n : Nat) (v : Int) (c : zI), v + n = 6 → 0 ≤ v →
    ∃ c', (∀ q, q ≠ 36 → c' q = c q) ∧ (∀ u, u < v → c' 36 u = c 36 u) ∧ (∀ u, v ≤ u → u < 6 → c' 36 u 0 = (if u < c 30 j 8 then c 35 j u else -1) ∧ c' 36 u 1 = 0 ∧ c' 36 u 2 = 0 ∧ c' 36 u 3 = 0 ∧ c' 36 u 5 = 0) ∧
      ∀ P : zI → Prop, P c' → WP mX11_beginAnew 37 [some (.inr (some (1, 0))), some (.inl v)] [] c r (zQ1v r P) := by
  intro n
  induction n with
  | zero =>
    intro v c hn h0
    exact ⟨c, fun _ _ => rfl, fun _ _ => rfl, fun u a b => by omega, fun P hP => GX11_beginAnew_37 R v ⟨fun _ => hP, fun z => absurd z (by omega)⟩⟩
  | succ n ih =>
    intro v c hn h0
    obtain ⟨p, ep⟩ : ∃ p, p = (if v < c 30 j 8 then c 35 j v else -1) := ⟨_, rfl⟩
    have kk : ∀ q, q ≠ 36 → cVh c v p q = c q := fun q hq => by
      unfold cVh
      rw [zup_kf _ _ _ _ hq, zup_kf _ _ _ _ hq, zup_kf _ _ _ _ hq, zup_kf _ _ _ _ hq, zup_kf _ _ _ _ hq, zup_kf _ _ _ _ hq]
    have kj : ∀ u, u ≠ v → cVh c v p 36 u = c 36 u := fun u hu => by
      unfold cVh
      rw [zup_jf _ _ _ hu, zup_jf _ _ _ hu, zup_jf _ _ _ hu, zup_jf _ _ _ hu, zup_jf _ _ _ hu, zup_jf _ _ _ hu]
    obtain ⟨c', a1, a2, a3, a4⟩ := ih (v + 1) (cVh c v p) (by omega) (by omega)
    refine ⟨c', fun q x => (a1 q x).trans (kk q x), fun u hu => ?_, fun u b1 b2 => ?_, fun P hP => ?_⟩
    · rw [a2 u (by omega), kj u (by omega)]
    · by_cases q : u = v
      · subst q
        rw [a2 u (by omega), ← ep]
        exact cVh_36 c u p
      · have := a3 u (by omega) b2
        rw [kk 30 (by decide), kk 35 (by decide)] at this
        exact this
    · have pr := parkingCell_run (c := c) R (v := v) hj (by omega)
      rw [← ep] at pr
      exact GX11_beginAnew_37 R v ⟨fun z => absurd z (by omega), fun _ => ⟨by omega, j, rj, hj, pr _ (GX9_beginAnew v p (by omega) ⟨⟨by omega, by omega⟩, a4 P hP⟩)⟩⟩
/-- the class begins anew -/
theorem beginAnew_run {c : zI} (R : RSc r) (rj : r 1 0 6 = some (30, j)) (hj : 0 ≤ j ∧ j < 2) (hp : 1 ≤ c 30 j 8 ∧ c 30 j 8 ≤ 6) : ∃ c', R1v mX11_beginAnew [.inr (some (1, 0))] c r c' ∧ (∀ q, q ≠ 1 → q ≠ 7 → q ≠ 8 → q ≠ 11 → q ≠ 17 → q ≠ 24 → q ≠ 25 → q ≠ 26 → q ≠ 36 → c' q = c q) ∧ c' 1 0 8 = c 1 0 8 ∧ CNew c' j (c 30 j 8) := by
  obtain ⟨h1, eh1⟩ : ∃ h1, h1 = zup (zup (zup (zup (zup c 1 0 9 0) 1 0 10 0) 11 0 5 0) 11 0 6 0) 11 0 7 0 := ⟨_, rfl⟩
  obtain ⟨h2, eh2⟩ : ∃ h2, h2 = zup (zup (zup (zup (zfil h1 8 0 0 64 0) 7 0 2 1) 7 0 3 0) 7 0 4 0) 7 0 5 0 := ⟨_, rfl⟩
  obtain ⟨h3, eh3⟩ : ∃ h3, h3 = zup (zup (zup h2 17 0 2 (c 30 j 8)) 17 0 3 (-1)) 17 0 4 (-1) := ⟨_, rfl⟩
  have zf : ∀ q, q ≠ 8 → zfil h1 8 0 0 64 0 q = h1 q := by
    intro q hq
    funext i s
    show (if q = 8 ∧ i = 0 ∧ 0 ≤ s ∧ s < 64 then 0 else h1 q i s) = h1 q i s
    rw [if_neg (fun z => hq z.1)]
  have k1 : ∀ q, q ≠ 1 → q ≠ 11 → h1 q = c q := fun q x y => by rw [eh1, zup_kf _ _ _ _ y, zup_kf _ _ _ _ y, zup_kf _ _ _ _ y, zup_kf _ _ _ _ x, zup_kf _ _ _ _ x]
  have k2 : ∀ q, q ≠ 7 → q ≠ 8 → h2 q = h1 q := fun q x y => by rw [eh2, zup_kf _ _ _ _ x, zup_kf _ _ _ _ x, zup_kf _ _ _ _ x, zup_kf _ _ _ _ x, zf q y]
  have k3 : ∀ q, q ≠ 17 → h3 q = h2 q := fun q x => by rw [eh3, zup_kf _ _ _ _ x, zup_kf _ _ _ _ x, zup_kf _ _ _ _ x]
  have e30 : h3 30 = c 30 := by rw [k3 30 (by decide), k2 30 (by decide) (by decide), k1 30 (by decide) (by decide)]
  have e35 : h3 35 = c 35 := by rw [k3 35 (by decide), k2 35 (by decide) (by decide), k1 35 (by decide) (by decide)]
  obtain ⟨h4, a1, a2, a3, a4⟩ := acc_from (r := r) R hj 6 0 h3 (by omega) (by omega)
  have f30 : h4 30 = c 30 := by rw [a1 30 (by decide) (by decide) (by decide), e30]
  have f35 : h4 35 = c 35 := by rw [a1 35 (by decide) (by decide) (by decide), e35]
  obtain ⟨h5, b1, b2, b3, b4⟩ := veh_from (r := r) R rj hj 6 0 h4 (by omega) (by omega)
  have g1 : h5 1 = h1 1 := by rw [b1 1 (by decide), a1 1 (by decide) (by decide) (by decide), k3 1 (by decide), k2 1 (by decide) (by decide)]
  have g7 : h5 7 = h2 7 := by rw [b1 7 (by decide), a1 7 (by decide) (by decide) (by decide), k3 7 (by decide)]
  have g8 : h5 8 = h2 8 := by rw [b1 8 (by decide), a1 8 (by decide) (by decide) (by decide), k3 8 (by decide)]
  have g11 : h5 11 = h1 11 := by rw [b1 11 (by decide), a1 11 (by decide) (by decide) (by decide), k3 11 (by decide), k2 11 (by decide) (by decide)]
  have g17 : h5 17 = h3 17 := by rw [b1 17 (by decide), a1 17 (by decide) (by decide) (by decide)]
  have g24 : h5 24 = h4 24 := b1 24 (by decide)
  have g25 : h5 25 = h4 25 := b1 25 (by decide)
  have g35 : h5 35 = c 35 := by rw [b1 35 (by decide), f35]
  refine ⟨h5, fun P hP => ?_, fun q x1 x2 x3 x4 x5 x6 x7 x8 x9 => ?_, ?_, ?_⟩
  · refine GX11_beginAnew R (GX8_clear ?_)
    rw [← eh1]
    refine GX5_clear (clearFates_run R (by decide) (by decide) _ ?_)
    rw [← eh2]
    refine ⟨j, rj, hj, GX1_beginAnew j hj ?_⟩
    have e28 : (if 6 < h2 30 j 8 then 6 else h2 30 j 8) = c 30 j 8 := by
      rw [k2 30 (by decide) (by decide), k1 30 (by decide) (by decide), if_neg (by omega)]
    rw [e28, ← eh3]
    exact a4 _ (b4 P hP)
  · rw [b1 q x9, a1 q x6 x7 x8, k3 q x5, k2 q x2 x3, k1 q x1 x4]
  · rw [g1, eh1]; rfl
  · refine ⟨⟨by rw [g1, eh1]; rfl, by rw [g1, eh1]; rfl⟩, ⟨by rw [g7, eh2]; rfl, by rw [g7, eh2]; rfl, by rw [g7, eh2]; rfl, by rw [g7, eh2]; rfl⟩, by rw [g8, eh2]; rfl, ⟨by rw [g11, eh1]; rfl, by rw [g11, eh1]; rfl, by rw [g11, eh1]; rfl⟩, ⟨by rw [g17, eh3]; rfl, by rw [g17, eh3]; rfl, by rw [g17, eh3]; rfl⟩, fun v v0 v1 => ?_⟩
    have x := a3 v v0 v1
    have y := b3 v v0 v1
    rw [g24, g25, g35]
    rw [e30, e35] at x
    rw [f30, f35] at y
    exact ⟨x.1, x.2, y⟩
end ZN
