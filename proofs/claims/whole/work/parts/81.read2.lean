theorem sim_read {hi : zI} {hr : zR} (h : RLb hi hr hi) : SimI mX11_read mX12_read [] hi hr := by
  have R := h.1
  have hM := h.2.1
  have hh := h.2.2.1
  obtain ⟨t1, t2, t3, t4, t5⟩ := h.2.2.2.2.1
  have h9 : ∃ pi : Int → Int, (∀ i, 0 ≤ i → i < 64 → hr 9 0 i = some (10, pi i) ∧ 0 ≤ pi i ∧ pi i < 64) ∧ (∀ i i', 0 ≤ i → i < i' → i' < 64 → pi i ≠ pi i') := by
    obtain ⟨h1, h2, h3, h4, h5, h6, h7, h8, h9, h10, h11, h12, h13, h14⟩ := h
    obtain ⟨pi, nm, g1, g2, -⟩ := h13
    exact ⟨pi, g1, g2⟩
  obtain ⟨jm, j1, r6, r7, -⟩ := h.2.2.2.2.2.2.2.1
  have hj : 0 ≤ 1 - jm ∧ 1 - jm < 2 := by omega
  have hjm : 0 ≤ jm ∧ jm < 2 := by omega
  obtain ⟨f, c1, f1, f2, f3, f4, f5⟩ := judge_lock (c := hi) (tp := hi 37 0 2) R hj t1 ⟨t2, t3⟩ (fun i a b => by
    have := t4 i a b
    omega)
  by_cases qf : f = 0
  · obtain ⟨e42, ln, wd, hl, hw, e5, e6, M, nn, np, ns, ref⟩ := f4 qf
    obtain ⟨c2, ec2⟩ : ∃ c2, c2 = zup (zup c1 1 0 8 (c1 4 0 2)) 2 0 1 0 := ⟨_, rfl⟩
    obtain ⟨r', er⟩ : ∃ r', r' = zupR (zupR hr 1 0 6 (some (30, 1 - jm))) 1 0 7 (some (30, jm)) := ⟨_, rfl⟩
    have R' : RSc r' := by rw [er]; exact R
    have hM' : RSm r' := by rw [er]; exact hM
    have hh' : ∃ jh : Int, (jh = 0 ∨ jh = 1) ∧ r' 19 0 3 = some (23, jh) ∧ r' 19 0 4 = some (23, 1 - jh) := by rw [er]; exact hh
    have h9' : ∃ pi : Int → Int, (∀ i, 0 ≤ i → i < 64 → r' 9 0 i = some (10, pi i) ∧ 0 ≤ pi i ∧ pi i < 64) ∧ (∀ i i', 0 ≤ i → i < i' → i' < 64 → pi i ≠ pi i') := by rw [er]; exact h9
    have q6 : r' 1 0 6 = some (30, 1 - jm) := by rw [er]; rfl
    have q7 : r' 1 0 7 = some (30, 1 - (1 - jm)) := by rw [er, zss]; rfl
    have k2 : ∀ q, q ≠ 1 → q ≠ 2 → c2 q = c1 q := fun q x y => by rw [ec2, zup_kf _ _ _ _ y, zup_kf _ _ _ _ x]
    obtain ⟨c3, b1, b2, b3, b4⟩ := beginAnew_run (c := c2) (j := 1 - jm) R' q6 hj (by rw [k2 30 (by decide) (by decide)]; exact np)
    have k3 : ∀ q, q ≠ 1 → q ≠ 2 → q ≠ 7 → q ≠ 8 → q ≠ 11 → q ≠ 17 → q ≠ 24 → q ≠ 25 → q ≠ 26 → q ≠ 36 → c3 q = c1 q := fun q x1 x2 x3 x4 x5 x6 x7 x8 x9 x10 => (b2 q x1 x3 x4 x5 x6 x7 x8 x9 x10).trans (k2 q x1 x2)
    have low : ∀ q, 37 ≤ q → c3 q = hi q := fun q hq => (k3 q (by omega) (by omega) (by omega) (by omega) (by omega) (by omega) (by omega) (by omega) (by omega) (by omega)).trans (f2.1 q (by omega) (by omega) (by omega) (by omega) (by omega) (by omega) (by omega) (by omega) (by omega))
    -- the reference
    obtain ⟨m1, a1, a2, a3, a4⟩ := ref c3 (by rw [low 37 (by decide)]) (fun i i0 i1 => by rw [low 38 (by decide)]; exact (t4 i i0 i1).1.symm)
    obtain ⟨m2, em2⟩ : ∃ m2, m2 = zup (zup (zup m1 37 0 4 (-1)) 37 0 5 ln) 37 0 6 wd := ⟨_, rfl⟩
    have k39 : m2 39 = m1 39 := by rw [em2, zup_kf _ _ _ _ (by decide), zup_kf _ _ _ _ (by decide), zup_kf _ _ _ _ (by decide)]
    obtain ⟨m3, d1, d2, d3⟩ := copy_from (k := c1 31 (1 - jm)) hl hw (ln * wd).toNat 0 m2 (by have := Int.mul_nonneg (show 0 ≤ ln by omega) (show 0 ≤ wd by omega); omega) (by omega) (by rw [em2]; rfl) (by rw [em2]; rfl) (by rw [k39]; exact a3) (fun x y z => by omega)
    obtain ⟨m4, em4⟩ : ∃ m4, m4 = zup (zup m3 37 0 17 1) 45 0 0 0 := ⟨_, rfl⟩
    have k4 : ∀ q, q ≠ 37 → q ≠ 45 → m4 q = m3 q := fun q x y => by rw [em4, zup_kf _ _ _ _ y, zup_kf _ _ _ _ x]
    have s37 : ∀ s, s ≠ 17 → m4 37 0 s = m2 37 0 s := fun s hs => by rw [em4, zup_kf _ _ _ _ (by decide), zup_f _ _ _ _ _ _ hs, d1 37 (by decide)]
    have kd : ∀ i, 0 ≤ i → i < ln * wd → m4 39 0 i = c1 31 (1 - jm) i := fun i i0 i1 => by rw [k4 39 (by decide) (by decide)]; exact d2 i i0 i1
    obtain ⟨m5, g1, g2, g3, g4, g5, g6, g7, g8⟩ := begins_run (m := m4) hl hw (by rw [s37 5 (by decide), em2]; rfl) (by rw [s37 6 (by decide), em2]; rfl) (by rw [em4]; rfl) (by rw [em4]; rfl) (fun i i0 i1 => by rw [kd i i0 i1]; exact (M.2.2.1 i i0 i1).1)
    -- all low cells
    have lo5 : ∀ q, q < 37 → m5 q = c3 q := fun q hq => by
      rw [g2 q hq, k4 q (by omega) (by omega), d1 q (by omega), em2, zup_kf _ _ _ _ (by omega), zup_kf _ _ _ _ (by omega), zup_kf _ _ _ _ (by omega), a1.1 q (by omega) (by omega) (by omega) (by omega), zup_kf _ _ _ _ (by omega)]
    have c30 : c3 30 = c1 30 := k3 30 (by decide) (by decide) (by decide) (by decide) (by decide) (by decide) (by decide) (by decide) (by decide) (by decide)
    have c31 : c3 31 = c1 31 := k3 31 (by decide) (by decide) (by decide) (by decide) (by decide) (by decide) (by decide) (by decide) (by decide) (by decide)
    have c32 : c3 32 = c1 32 := k3 32 (by decide) (by decide) (by decide) (by decide) (by decide) (by decide) (by decide) (by decide) (by decide) (by decide)
    have c33 : c3 33 = c1 33 := k3 33 (by decide) (by decide) (by decide) (by decide) (by decide) (by decide) (by decide) (by decide) (by decide) (by decide)
    have c34 : c3 34 = c1 34 := k3 34 (by decide) (by decide) (by decide) (by decide) (by decide) (by decide) (by decide) (by decide) (by decide) (by decide)
    have c35 : c3 35 = c1 35 := k3 35 (by decide) (by decide) (by decide) (by decide) (by decide) (by decide) (by decide) (by decide) (by decide) (by decide)
    have c2_2 : c3 2 = c2 2 := b2 2 (by decide) (by decide) (by decide) (by decide) (by decide) (by decide) (by decide) (by decide) (by decide)
    have new : RLb c3 r' m5 := by
      refine RLb_new (j := 1 - jm) (ln := ln) (wd := wd) R' hM' hh' (by omega) q6 q7 h9' hl hw g6.2.2.1 g6.2.2.2 (by rw [c30]; exact e5) (by rw [c30]; exact e6) (fun i i0 i1 => ?_) (by rw [c31, c33]; exact nn) (by rw [c30, c31, c32, c34, c35]; exact M) g7 (by rw [c30]; exact np) (by rw [c30]; exact ns) ⟨?_, ?_, ?_, fun i a b => ?_, ?_⟩ (by
        have := b4
        rw [k2 30 (by decide) (by decide)] at this
        rw [c30]; exact this) g8
      · rw [c31, g4, kd i i0 i1]
      · rw [c2_2, ec2, g6.1, s37 2 (by decide), em2]
        exact (a1.2.1 2 (by decide) (by decide) (by decide) (by decide)).symm ▸ rfl
      · rw [g6.1, s37 2 (by decide), em2]
        show 0 ≤ m1 37 0 2
        rw [a1.2.1 2 (by decide) (by decide) (by decide) (by decide), zup_s]
        decide
      · rw [g6.1, s37 2 (by decide), em2]
        show m1 37 0 2 ≤ 400
        rw [a1.2.1 2 (by decide) (by decide) (by decide) (by decide), zup_s]
        decide
      · exfalso
        rw [g6.1, s37 2 (by decide), em2] at b
        have b' : i < m1 37 0 2 := b
        rw [a1.2.1 2 (by decide) (by decide) (by decide) (by decide), zup_s] at b'
        omega
      · rw [b3, ec2, g6.2.1, s37 4 (by decide), em2]
        show c1 4 0 2 = -1
        exact e42
    refine SimI.of2 (x := 0) (c' := c3) (hr' := r') (m' := m5) (fun P hP => GX11_read R ⟨1 - jm, r7, hj, f3 _ ⟨fun z => absurd qf z, fun _ => ⟨jm, r6, hjm, ?_⟩⟩⟩) (fun P hP => a4 r' hM' P (fun x1 x2 x3 u5 u6 => ?_)) (new.onC lo5)
    · rw [← er, ← ec2, qf]
      exact b1 _ hP
    · rw [← em2]
      refine d3 r' hM' P x1 x2 x3 u5 u6 ?_
      rw [← em4]
      exact g1 r' hM' _ hP
  · obtain ⟨m', a1, a2, a3⟩ := f5 qf (zup (zup c1 1 0 8 (c1 4 0 2)) 2 0 1 0) (by
      rw [zup_kf _ _ _ _ (by decide), zup_kf _ _ _ _ (by decide), f2.1 37 (by decide) (by decide) (by decide) (by decide) (by decide) (by decide) (by decide) (by decide) (by decide)]) (fun i i0 i1 => by
      rw [zup_kf _ _ _ _ (by decide), zup_kf _ _ _ _ (by decide), f2.1 38 (by decide) (by decide) (by decide) (by decide) (by decide) (by decide) (by decide) (by decide) (by decide)]
      exact (t4 i i0 i1).1.symm)
    have lo : ∀ q, q < 37 → m' q = zup (zup c1 1 0 8 (c1 4 0 2)) 2 0 1 0 q := fun q hq => (a1.1 q (by omega) (by omega) (by omega) (by omega)).trans (zup_kf _ _ _ _ (by omega))
    have hi37 : ∀ q, 37 < q → q ≠ 39 → q ≠ 43 → q ≠ 44 → m' q = hi q := fun q x1 x2 x3 x4 => by
      rw [a1.1 q (by omega) x2 x3 x4, zup_kf _ _ _ _ (by omega), zup_kf _ _ _ _ (by omega), zup_kf _ _ _ _ (by omega), f2.1 q (by omega) (by omega) (by omega) (by omega) (by omega) (by omega) (by omega) (by omega) (by omega)]
    have k37 : zup (zup c1 1 0 8 (c1 4 0 2)) 2 0 1 0 37 = hi 37 := by rw [zup_kf _ _ _ _ (by decide), zup_kf _ _ _ _ (by decide), f2.1 37 (by decide) (by decide) (by decide) (by decide) (by decide) (by decide) (by decide) (by decide) (by decide)]
    have k39 : zup (zup c1 1 0 8 (c1 4 0 2)) 2 0 1 0 39 = hi 39 := by rw [zup_kf _ _ _ _ (by decide), zup_kf _ _ _ _ (by decide), f2.1 39 (by decide) (by decide) (by decide) (by decide) (by decide) (by decide) (by decide) (by decide) (by decide)]
    have new := h.faulty (c' := c1) (m' := m') (p := c1 4 0 2) r6 f2 hi37 (fun s x1 x2 x3 x4 x5 => by rw [a1.2.1 s x2 x3 x4 x5, zup_f _ _ _ _ _ _ x1, k37]) (fun i hi => by rw [a1.2.2 i hi, zup_kf _ _ _ _ (by decide), k39]) (by rw [a1.2.1 2 (by decide) (by decide) (by decide) (by decide), zup_s]) a2
    exact SimI.of2 (x := f) (c' := zup (zup c1 1 0 8 (c1 4 0 2)) 2 0 1 0) (hr' := hr) (m' := m') (fun P hP => GX11_read R ⟨1 - jm, r7, hj, f3 _ ⟨fun _ => hP, fun z => absurd z qf⟩⟩) (a3 hr hM) (new.onC lo)
