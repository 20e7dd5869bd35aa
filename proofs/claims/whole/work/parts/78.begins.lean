theorem zup_f2 (h : zI) (k : Nat) (x : Int) {v u : Int} (q : Nat) (hne : u ≠ v) : zup h k 0 v x q 0 u = h q 0 u := by
  simp [zup, hne]
/-- a vehicle of the reference begun anew -/
def mBv (m : zI) (v p : Int) : zI := zup (zup (zup (zup (zup (zup (zup (zup (zup (zup (zup (zup (zup (zup (zup (zup m 67 0 v p) 68 0 v 0) 69 0 v 0) 70 0 v 0) 71 0 v 0) 73 0 v 0) 74 0 v 1) 75 0 v 0) 76 0 v 0) 77 0 v 0) 78 0 v (-1)) 54 0 v 0) 79 0 v 0) 80 0 v 0) 52 0 v 0) 53 0 v (-1)
theorem mBv_k (m : zI) (v p : Int) {q : Nat} (h67 : q ≠ 67) (h68 : q ≠ 68) (h69 : q ≠ 69) (h70 : q ≠ 70) (h71 : q ≠ 71) (h73 : q ≠ 73) (h74 : q ≠ 74) (h75 : q ≠ 75) (h76 : q ≠ 76) (h77 : q ≠ 77) (h78 : q ≠ 78) (h54 : q ≠ 54) (h79 : q ≠ 79) (h80 : q ≠ 80) (h52 : q ≠ 52) (h53 : q ≠ 53) : mBv m v p q = m q := by
  unfold mBv
  rw [zup_kf _ _ _ _ h53, zup_kf _ _ _ _ h52, zup_kf _ _ _ _ h80, zup_kf _ _ _ _ h79, zup_kf _ _ _ _ h54, zup_kf _ _ _ _ h78, zup_kf _ _ _ _ h77, zup_kf _ _ _ _ h76, zup_kf _ _ _ _ h75, zup_kf _ _ _ _ h74, zup_kf _ _ _ _ h73, zup_kf _ _ _ _ h71, zup_kf _ _ _ _ h70, zup_kf _ _ _ _ h69, zup_kf _ _ _ _ h68, zup_kf _ _ _ _ h67]
theorem mBv_u (m : zI) (v p : Int) (q : Nat) {u : Int} (h : u ≠ v) : mBv m v p q 0 u = m q 0 u := by
  unfold mBv
  rw [zup_f2 _ _ _ _ h, zup_f2 _ _ _ _ h, zup_f2 _ _ _ _ h, zup_f2 _ _ _ _ h, zup_f2 _ _ _ _ h, zup_f2 _ _ _ _ h, zup_f2 _ _ _ _ h, zup_f2 _ _ _ _ h, zup_f2 _ _ _ _ h, zup_f2 _ _ _ _ h, zup_f2 _ _ _ _ h, zup_f2 _ _ _ _ h, zup_f2 _ _ _ _ h, zup_f2 _ _ _ _ h, zup_f2 _ _ _ _ h, zup_f2 _ _ _ _ h]
theorem mBv_v (m : zI) (v p : Int) : mBv m v p 67 0 v = p ∧ mBv m v p 68 0 v = 0 ∧ mBv m v p 69 0 v = 0 ∧ mBv m v p 70 0 v = 0 ∧ mBv m v p 71 0 v = 0 ∧ mBv m v p 73 0 v = 0 ∧ mBv m v p 74 0 v = 1 ∧ mBv m v p 75 0 v = 0 ∧ mBv m v p 76 0 v = 0 ∧ mBv m v p 77 0 v = 0 ∧ mBv m v p 78 0 v = (-1) ∧ mBv m v p 54 0 v = 0 ∧ mBv m v p 79 0 v = 0 ∧ mBv m v p 80 0 v = 0 ∧ mBv m v p 52 0 v = 0 ∧ mBv m v p 53 0 v = (-1) := by
  unfold mBv
  refine ⟨?_, ?_, ?_, ?_, ?_, ?_, ?_, ?_, ?_, ?_, ?_, ?_, ?_, ?_, ?_, ?_⟩
  · rw [zup_kf _ _ _ _ (by decide), zup_kf _ _ _ _ (by decide), zup_kf _ _ _ _ (by decide), zup_kf _ _ _ _ (by decide), zup_kf _ _ _ _ (by decide), zup_kf _ _ _ _ (by decide), zup_kf _ _ _ _ (by decide), zup_kf _ _ _ _ (by decide), zup_kf _ _ _ _ (by decide), zup_kf _ _ _ _ (by decide), zup_kf _ _ _ _ (by decide), zup_kf _ _ _ _ (by decide), zup_kf _ _ _ _ (by decide), zup_kf _ _ _ _ (by decide), zup_kf _ _ _ _ (by decide), zup_s]
  · rw [zup_kf _ _ _ _ (by decide), zup_kf _ _ _ _ (by decide), zup_kf _ _ _ _ (by decide), zup_kf _ _ _ _ (by decide), zup_kf _ _ _ _ (by decide), zup_kf _ _ _ _ (by decide), zup_kf _ _ _ _ (by decide), zup_kf _ _ _ _ (by decide), zup_kf _ _ _ _ (by decide), zup_kf _ _ _ _ (by decide), zup_kf _ _ _ _ (by decide), zup_kf _ _ _ _ (by decide), zup_kf _ _ _ _ (by decide), zup_kf _ _ _ _ (by decide), zup_s]
  · rw [zup_kf _ _ _ _ (by decide), zup_kf _ _ _ _ (by decide), zup_kf _ _ _ _ (by decide), zup_kf _ _ _ _ (by decide), zup_kf _ _ _ _ (by decide), zup_kf _ _ _ _ (by decide), zup_kf _ _ _ _ (by decide), zup_kf _ _ _ _ (by decide), zup_kf _ _ _ _ (by decide), zup_kf _ _ _ _ (by decide), zup_kf _ _ _ _ (by decide), zup_kf _ _ _ _ (by decide), zup_kf _ _ _ _ (by decide), zup_s]
  · rw [zup_kf _ _ _ _ (by decide), zup_kf _ _ _ _ (by decide), zup_kf _ _ _ _ (by decide), zup_kf _ _ _ _ (by decide), zup_kf _ _ _ _ (by decide), zup_kf _ _ _ _ (by decide), zup_kf _ _ _ _ (by decide), zup_kf _ _ _ _ (by decide), zup_kf _ _ _ _ (by decide), zup_kf _ _ _ _ (by decide), zup_kf _ _ _ _ (by decide), zup_kf _ _ _ _ (by decide), zup_s]
  · rw [zup_kf _ _ _ _ (by decide), zup_kf _ _ _ _ (by decide), zup_kf _ _ _ _ (by decide), zup_kf _ _ _ _ (by decide), zup_kf _ _ _ _ (by decide), zup_kf _ _ _ _ (by decide), zup_kf _ _ _ _ (by decide), zup_kf _ _ _ _ (by decide), zup_kf _ _ _ _ (by decide), zup_kf _ _ _ _ (by decide), zup_kf _ _ _ _ (by decide), zup_s]
  · rw [zup_kf _ _ _ _ (by decide), zup_kf _ _ _ _ (by decide), zup_kf _ _ _ _ (by decide), zup_kf _ _ _ _ (by decide), zup_kf _ _ _ _ (by decide), zup_kf _ _ _ _ (by decide), zup_kf _ _ _ _ (by decide), zup_kf _ _ _ _ (by decide), zup_kf _ _ _ _ (by decide), zup_kf _ _ _ _ (by decide), zup_s]
  · rw [zup_kf _ _ _ _ (by decide), zup_kf _ _ _ _ (by decide), zup_kf _ _ _ _ (by decide), zup_kf _ _ _ _ (by decide), zup_kf _ _ _ _ (by decide), zup_kf _ _ _ _ (by decide), zup_kf _ _ _ _ (by decide), zup_kf _ _ _ _ (by decide), zup_kf _ _ _ _ (by decide), zup_s]
  · rw [zup_kf _ _ _ _ (by decide), zup_kf _ _ _ _ (by decide), zup_kf _ _ _ _ (by decide), zup_kf _ _ _ _ (by decide), zup_kf _ _ _ _ (by decide), zup_kf _ _ _ _ (by decide), zup_kf _ _ _ _ (by decide), zup_kf _ _ _ _ (by decide), zup_s]
  · rw [zup_kf _ _ _ _ (by decide), zup_kf _ _ _ _ (by decide), zup_kf _ _ _ _ (by decide), zup_kf _ _ _ _ (by decide), zup_kf _ _ _ _ (by decide), zup_kf _ _ _ _ (by decide), zup_kf _ _ _ _ (by decide), zup_s]
  · rw [zup_kf _ _ _ _ (by decide), zup_kf _ _ _ _ (by decide), zup_kf _ _ _ _ (by decide), zup_kf _ _ _ _ (by decide), zup_kf _ _ _ _ (by decide), zup_kf _ _ _ _ (by decide), zup_s]
  · rw [zup_kf _ _ _ _ (by decide), zup_kf _ _ _ _ (by decide), zup_kf _ _ _ _ (by decide), zup_kf _ _ _ _ (by decide), zup_kf _ _ _ _ (by decide), zup_s]
  · rw [zup_kf _ _ _ _ (by decide), zup_kf _ _ _ _ (by decide), zup_kf _ _ _ _ (by decide), zup_kf _ _ _ _ (by decide), zup_s]
  · rw [zup_kf _ _ _ _ (by decide), zup_kf _ _ _ _ (by decide), zup_kf _ _ _ _ (by decide), zup_s]
  · rw [zup_kf _ _ _ _ (by decide), zup_kf _ _ _ _ (by decide), zup_s]
  · rw [zup_kf _ _ _ _ (by decide), zup_s]
  · rw [zup_s]
/-- the vehicles begin -/
theorem mveh_from : ∀ (n : Nat) (v : Int) (m : zI), v + n = 6 → 0 ≤ v → ∃ m', (∀ q, q ≠ 67 → q ≠ 68 → q ≠ 69 → q ≠ 70 → q ≠ 71 → q ≠ 73 → q ≠ 74 → q ≠ 75 → q ≠ 76 → q ≠ 77 → q ≠ 78 → q ≠ 54 → q ≠ 79 → q ≠ 80 → q ≠ 52 → q ≠ 53 → m' q = m q) ∧ (∀ q u, u < v → m' q 0 u = m q 0 u) ∧
    (∀ u, v ≤ u → u < 6 → m' 67 0 u = (if u < m 37 0 10 then m 42 0 u else -1) ∧ m' 68 0 u = 0 ∧ m' 69 0 u = 0 ∧ m' 70 0 u = 0 ∧ m' 71 0 u = 0 ∧ m' 73 0 u = 0 ∧ m' 74 0 u = 1 ∧ m' 75 0 u = 0 ∧ m' 76 0 u = 0 ∧ m' 77 0 u = 0 ∧ m' 78 0 u = -1 ∧ m' 54 0 u = 0 ∧ m' 79 0 u = 0 ∧ m' 80 0 u = 0 ∧ m' 52 0 u = 0 ∧ m' 53 0 u = -1) ∧
      ∀ hr, RSm hr → ∀ P : zI → Prop, P m' → WP mX12_begins 160 [some (.inr (some (37, 0))), some (.inl v)] [] m hr (zQ1v hr P) := by
  intro n
  induction n with
  | zero =>
    intro v m hn h0
    exact ⟨m, fun _ _ _ _ _ _ _ _ _ _ _ _ _ _ _ _ _ => rfl, fun _ _ _ => rfl, fun u a b => by omega, fun hr hM P hP => GX12_begins_160 hM v ⟨fun _ => hP, fun z => absurd z (by omega)⟩⟩
  | succ n ih =>
    intro v m hn h0
    obtain ⟨p, ep⟩ : ∃ p, p = (if v < m 37 0 10 then m 42 0 v else -1) := ⟨_, rfl⟩
    obtain ⟨m', a1, a2, a3, a4⟩ := ih (v + 1) (mBv m v p) (by omega) (by omega)
    have v6 : 0 ≤ v ∧ v < 6 := by omega
    refine ⟨m', fun q x0 x1 x2 x3 x4 x5 x6 x7 x8 x9 x10 x11 x12 x13 x14 x15 => (a1 q x0 x1 x2 x3 x4 x5 x6 x7 x8 x9 x10 x11 x12 x13 x14 x15).trans (mBv_k m v p x0 x1 x2 x3 x4 x5 x6 x7 x8 x9 x10 x11 x12 x13 x14 x15), fun q u hu => (a2 q u (by omega)).trans (mBv_u m v p q (by omega)), fun u b1 b2 => ?_, fun hr hM P hP => ?_⟩
    · by_cases q : u = v
      · subst q
        rw [a2 67 u (by omega), a2 68 u (by omega), a2 69 u (by omega), a2 70 u (by omega), a2 71 u (by omega), a2 73 u (by omega), a2 74 u (by omega), a2 75 u (by omega), a2 76 u (by omega), a2 77 u (by omega), a2 78 u (by omega), a2 54 u (by omega), a2 79 u (by omega), a2 80 u (by omega), a2 52 u (by omega), a2 53 u (by omega), ← ep]
        exact mBv_v m u p
      · have := a3 u (by omega) b2
        rw [mBv_k m v p (q := 37) (by decide) (by decide) (by decide) (by decide) (by decide) (by decide) (by decide) (by decide) (by decide) (by decide) (by decide) (by decide) (by decide) (by decide) (by decide) (by decide), mBv_k m v p (q := 42) (by decide) (by decide) (by decide) (by decide) (by decide) (by decide) (by decide) (by decide) (by decide) (by decide) (by decide) (by decide) (by decide) (by decide) (by decide) (by decide)] at this
        exact this
    · have K := a4 hr hM P hP
      refine GX12_begins_160 hM v ⟨fun z => absurd z (by omega), fun _ => ⟨fun z => ?_, fun z => ?_⟩⟩
      · rw [if_neg (by omega)] at ep
        rw [ep] at K
        exact ⟨v6, v6, v6, v6, v6, v6, v6, v6, v6, v6, v6, v6, v6, v6, v6, v6, ⟨by omega, by omega⟩, K⟩
      · rw [if_pos z] at ep
        rw [ep] at K
        exact ⟨by omega, v6, v6, v6, v6, v6, v6, v6, v6, v6, v6, v6, v6, v6, v6, v6, v6, ⟨by omega, by omega⟩, K⟩
/-- the reference begins: stations and parkings -/
theorem begins_from {ln wd : Int} (hl : 1 ≤ ln ∧ ln ≤ 16) (hw : 1 ≤ wd ∧ wd ≤ 16) : ∀ (n : Nat) (i : Int) (m : zI), i + n = ln * wd → 0 ≤ i → m 37 0 5 = ln → m 37 0 6 = wd → (∀ i, 0 ≤ i → i < ln * wd → 0 ≤ m 39 0 i ∧ m 39 0 i ≤ 3) → MpI (m 39 0) i (m 37 0 9) (m 37 0 10) (m 40 0) (m 41 0) (m 42 0) 256 256 →
    ∃ m', (∀ q, q ≠ 37 → q ≠ 40 → q ≠ 41 → q ≠ 42 → m' q = m q) ∧ (∀ s, s ≠ 9 → s ≠ 10 → m' 37 0 s = m 37 0 s) ∧ MpI (m' 39 0) (ln * wd) (m' 37 0 9) (m' 37 0 10) (m' 40 0) (m' 41 0) (m' 42 0) 256 256 ∧
      ∀ hr, RSm hr → ∀ P : zI → Prop, WP mX12_begins 160 [some (.inr (some (37, 0))), some (.inl 0)] [] (zup (zup (zup (zup (zup (zup (zup (zup m' 37 0 19 0) 37 0 20 0) 37 0 21 0) 37 0 61 0) 37 0 35 0) 37 0 36 0) 37 0 37 0) 37 0 53 0) hr (zQ1v hr P) → WP mX12_begins 12 [some (.inr (some (37, 0))), some (.inl i)] [] m hr (zQ1v hr P) := by
  have mx := mul_bd (a := ln) (b := wd) (A := 16) (B := 16) (by omega) (by omega) (by omega) (by omega)
  intro n
  induction n with
  | zero =>
    intro i m hn h0 e5 e6 hk M
    have e : i = ln * wd := by omega
    refine ⟨m, fun _ _ _ _ _ => rfl, fun _ _ _ => rfl, by rw [← e]; exact M, fun hr hM P hP => GX12_begins_12 hM i ?_⟩
    rw [e5, e6]
    exact ⟨⟨by omega, by omega⟩, fun _ => hP, fun z => absurd z (by omega)⟩
  | succ n ih =>
    intro i m hn h0 e5 e6 hk M
    have ki := hk i h0 (by omega)
    have b7 := cnK_le 2 (m 39 0) (show (0 : Int) ≤ 0 by omega) h0
    have b8 := cnK_le 3 (m 39 0) (show (0 : Int) ≤ 0 by omega) h0
    rw [cnK_0, ← M.1] at b7
    rw [cnK_0, ← M.2.1] at b8
    have i256 : 0 ≤ i ∧ i < 256 := by omega
    have zi : zInR (i + 1) := ⟨by omega, by omega⟩
    by_cases q2 : m 39 0 i = 2
    · obtain ⟨m1, em1⟩ : ∃ m1, m1 = zup (zup (zup (zup m 40 0 i (-1)) 40 0 i (m 37 0 9)) 41 0 (m 37 0 9) i) 37 0 9 (m 37 0 9 + 1) := ⟨_, rfl⟩
      have k39 : m1 39 = m 39 := by rw [em1, zup_kf _ _ _ _ (by decide), zup_kf _ _ _ _ (by decide), zup_kf _ _ _ _ (by decide), zup_kf _ _ _ _ (by decide)]
      have k42 : m1 42 = m 42 := by rw [em1, zup_kf _ _ _ _ (by decide), zup_kf _ _ _ _ (by decide), zup_kf _ _ _ _ (by decide), zup_kf _ _ _ _ (by decide)]
      have k37 : ∀ s, m1 37 0 s = if s = 9 then m 37 0 9 + 1 else m 37 0 s := fun s => by rw [em1, zup_at, zup_kf _ _ _ _ (by decide), zup_kf _ _ _ _ (by decide), zup_kf _ _ _ _ (by decide)]
      have k40 : ∀ s, m1 40 0 s = if s = i then m 37 0 9 else m 40 0 s := fun s => by
        rw [em1, zup_kf _ _ _ _ (by decide), zup_kf _ _ _ _ (by decide), zup_at, zup_at]
        split <;> rfl
      have k41 : ∀ s, m1 41 0 s = if s = m 37 0 9 then i else m 41 0 s := fun s => by rw [em1, zup_kf _ _ _ _ (by decide), zup_at, zup_kf _ _ _ _ (by decide), zup_kf _ _ _ _ (by decide)]
      have M1 : MpI (m1 39 0) (i + 1) (m1 37 0 9) (m1 37 0 10) (m1 40 0) (m1 41 0) (m1 42 0) 256 256 := by
        refine M.step (q := 2) h0 (by decide) (fun z hz => by rw [k39]) (by rw [k39]; exact q2) (fun z hz => by rw [k40, if_neg (by omega)]) (fun z => absurd rfl z) (fun _ => ⟨by rw [k40, if_pos rfl], fun _ => by rw [k41, if_pos rfl]⟩) (fun z => absurd z (by decide)) (fun s hs => by rw [k41, if_neg (by omega)]) (fun s hs => by rw [k42]) ?_ ?_
        · rw [k37, if_pos rfl, if_pos rfl]
        · rw [k37, if_neg (by decide), if_neg (by decide), Int.add_zero]
      obtain ⟨m', a1, a2, a3, a4⟩ := ih (i + 1) m1 (by omega) (by omega) (by rw [k37, if_neg (by decide)]; exact e5) (by rw [k37, if_neg (by decide)]; exact e6) (by rw [k39]; exact hk) M1
      refine ⟨m', fun q x y z w => (a1 q x y z w).trans (by rw [em1, zup_kf _ _ _ _ x, zup_kf _ _ _ _ z, zup_kf _ _ _ _ y, zup_kf _ _ _ _ y]), fun s x y => (a2 s x y).trans (by rw [k37, if_neg x]), a3, fun hr hM P hP => GX12_begins_12 hM i ?_⟩
      have K := a4 hr hM P hP
      rw [em1] at K
      rw [e5, e6]
      exact ⟨⟨by omega, by omega⟩, fun z => absurd z (by omega), fun _ => ⟨i256, by omega, fun z => absurd q2 z, fun _ => ⟨i256, by omega, ⟨by omega, by omega⟩, by omega, fun _ => ⟨zi, K⟩, fun z => absurd (q2.symm.trans z) (by decide)⟩⟩⟩
    · by_cases q3 : m 39 0 i = 3
      · obtain ⟨m1, em1⟩ : ∃ m1, m1 = zup (zup (zup (zup m 40 0 i (-1)) 40 0 i (m 37 0 10)) 42 0 (m 37 0 10) i) 37 0 10 (m 37 0 10 + 1) := ⟨_, rfl⟩
        have k39 : m1 39 = m 39 := by rw [em1, zup_kf _ _ _ _ (by decide), zup_kf _ _ _ _ (by decide), zup_kf _ _ _ _ (by decide), zup_kf _ _ _ _ (by decide)]
        have k41 : m1 41 = m 41 := by rw [em1, zup_kf _ _ _ _ (by decide), zup_kf _ _ _ _ (by decide), zup_kf _ _ _ _ (by decide), zup_kf _ _ _ _ (by decide)]
        have k37 : ∀ s, m1 37 0 s = if s = 10 then m 37 0 10 + 1 else m 37 0 s := fun s => by rw [em1, zup_at, zup_kf _ _ _ _ (by decide), zup_kf _ _ _ _ (by decide), zup_kf _ _ _ _ (by decide)]
        have k40 : ∀ s, m1 40 0 s = if s = i then m 37 0 10 else m 40 0 s := fun s => by
          rw [em1, zup_kf _ _ _ _ (by decide), zup_kf _ _ _ _ (by decide), zup_at, zup_at]
          split <;> rfl
        have k42 : ∀ s, m1 42 0 s = if s = m 37 0 10 then i else m 42 0 s := fun s => by rw [em1, zup_kf _ _ _ _ (by decide), zup_at, zup_kf _ _ _ _ (by decide), zup_kf _ _ _ _ (by decide)]
        have M1 : MpI (m1 39 0) (i + 1) (m1 37 0 9) (m1 37 0 10) (m1 40 0) (m1 41 0) (m1 42 0) 256 256 := by
          refine M.step (q := 3) h0 (by decide) (fun z hz => by rw [k39]) (by rw [k39]; exact q3) (fun z hz => by rw [k40, if_neg (by omega)]) (fun _ z => absurd rfl z) (fun z => absurd z (by decide)) (fun _ => ⟨by rw [k40, if_pos rfl], fun _ => by rw [k42, if_pos rfl]⟩) (fun s hs => by rw [k41]) (fun s hs => by rw [k42, if_neg (by omega)]) ?_ ?_
          · rw [k37, if_neg (by decide), if_neg (by decide), Int.add_zero]
          · rw [k37, if_pos rfl, if_pos rfl]
        obtain ⟨m', a1, a2, a3, a4⟩ := ih (i + 1) m1 (by omega) (by omega) (by rw [k37, if_neg (by decide)]; exact e5) (by rw [k37, if_neg (by decide)]; exact e6) (by rw [k39]; exact hk) M1
        refine ⟨m', fun q x y z w => (a1 q x y z w).trans (by rw [em1, zup_kf _ _ _ _ x, zup_kf _ _ _ _ w, zup_kf _ _ _ _ y, zup_kf _ _ _ _ y]), fun s x y => (a2 s x y).trans (by rw [k37, if_neg y]), a3, fun hr hM P hP => GX12_begins_12 hM i ?_⟩
        have K := a4 hr hM P hP
        rw [em1] at K
        rw [e5, e6]
        exact ⟨⟨by omega, by omega⟩, fun z => absurd z (by omega), fun _ => ⟨i256, by omega, fun _ => ⟨by omega, fun z => absurd q3 z, fun _ => ⟨i256, by omega, ⟨by omega, by omega⟩, zi, K⟩⟩, fun z => absurd z q2⟩⟩
      · have k40 : ∀ s, zup m 40 0 i (-1) 40 0 s = if s = i then -1 else m 40 0 s := fun s => zup_at _ _ _ _ _ _
        have M1 : MpI (m 39 0) (i + 1) (m 37 0 9) (m 37 0 10) (zup m 40 0 i (-1) 40 0) (m 41 0) (m 42 0) 256 256 := by
          refine M.step (q := m 39 0 i) h0 ki (fun _ _ => rfl) rfl (fun z hz => by rw [k40, if_neg (by omega)]) (fun _ _ => by rw [k40, if_pos rfl]) (fun z => absurd z q2) (fun z => absurd z q3) (fun _ _ => rfl) (fun _ _ => rfl) ?_ ?_
          · rw [if_neg q2, Int.add_zero]
          · rw [if_neg q3, Int.add_zero]
        obtain ⟨m', a1, a2, a3, a4⟩ := ih (i + 1) (zup m 40 0 i (-1)) (by omega) (by omega) e5 e6 hk M1
        refine ⟨m', fun q x y z w => (a1 q x y z w).trans (zup_kf _ _ _ _ y), fun s x y => (a2 s x y), a3, fun hr hM P hP => GX12_begins_12 hM i ?_⟩
        have K := a4 hr hM P hP
        rw [e5, e6]
        exact ⟨⟨by omega, by omega⟩, fun z => absurd z (by omega), fun _ => ⟨i256, by omega, fun _ => ⟨by omega, fun _ => ⟨zi, K⟩, fun z => absurd z q3⟩, fun z => absurd z q2⟩⟩
theorem begins_run {m : zI} {ln wd : Int} (hl : 1 ≤ ln ∧ ln ≤ 16) (hw : 1 ≤ wd ∧ wd ≤ 16) (e5 : m 37 0 5 = ln) (e6 : m 37 0 6 = wd) (e17 : m 37 0 17 = 1) (e45 : m 45 0 0 = 0) (hk : ∀ i, 0 ≤ i → i < ln * wd → 0 ≤ m 39 0 i ∧ m 39 0 i ≤ 3) :
    ∃ m', (∀ hr, RSm hr → R1v mX12_begins [.inr (some (37, 0))] m hr m') ∧ (∀ q, q < 37 → m' q = m q) ∧ m' 38 = m 38 ∧ m' 39 = m 39 ∧ m' 45 = m 45 ∧ (m' 37 0 2 = m 37 0 2 ∧ m' 37 0 4 = m 37 0 4 ∧ m' 37 0 5 = ln ∧ m' 37 0 6 = wd) ∧ MpI (m' 39 0) (ln * wd) (m' 37 0 9) (m' 37 0 10) (m' 40 0) (m' 41 0) (m' 42 0) 256 256 ∧ MNew m' := by
  have h0 : 0 ≤ ln * wd := Int.mul_nonneg (by omega) (by omega)
  obtain ⟨m1, em1⟩ : ∃ m1, m1 = zup (zup m 37 0 9 0) 37 0 10 0 := ⟨_, rfl⟩
  have k1 : ∀ q, q ≠ 37 → m1 q = m q := fun q hq => by rw [em1, zup_kf _ _ _ _ hq, zup_kf _ _ _ _ hq]
  have k37 : ∀ s, s ≠ 9 → s ≠ 10 → m1 37 0 s = m 37 0 s := fun s x y => by rw [em1, zup_f _ _ _ _ _ _ y, zup_f _ _ _ _ _ _ x]
  obtain ⟨m2, a1, a2, a3, a4⟩ := begins_from hl hw (ln * wd).toNat 0 m1 (by omega) (by omega) (by rw [k37 5 (by decide) (by decide)]; exact e5) (by rw [k37 6 (by decide) (by decide)]; exact e6) (by rw [k1 39 (by decide)]; exact hk) (by
    have z9 : m1 37 0 9 = 0 := by rw [em1]; rfl
    have z10 : m1 37 0 10 = 0 := by rw [em1]; rfl
    rw [z9, z10]
    exact MpI.zero _ _ _ _ _ _)
  obtain ⟨m3, em3⟩ : ∃ m3, m3 = zup (zup (zup (zup (zup (zup (zup (zup m2 37 0 19 0) 37 0 20 0) 37 0 21 0) 37 0 61 0) 37 0 35 0) 37 0 36 0) 37 0 37 0) 37 0 53 0 := ⟨_, rfl⟩
  have k3 : ∀ q, q ≠ 37 → m3 q = m2 q := fun q hq => by rw [em3, zup_kf _ _ _ _ hq, zup_kf _ _ _ _ hq, zup_kf _ _ _ _ hq, zup_kf _ _ _ _ hq, zup_kf _ _ _ _ hq, zup_kf _ _ _ _ hq, zup_kf _ _ _ _ hq, zup_kf _ _ _ _ hq]
  obtain ⟨m4, b1, b2, b3, b4⟩ := mveh_from 6 0 m3 (by omega) (by omega)
  have q37 : m4 37 = m3 37 := b1 37 (by decide) (by decide) (by decide) (by decide) (by decide) (by decide) (by decide) (by decide) (by decide) (by decide) (by decide) (by decide) (by decide) (by decide) (by decide) (by decide)
  have q39 : m4 39 = m2 39 := (b1 39 (by decide) (by decide) (by decide) (by decide) (by decide) (by decide) (by decide) (by decide) (by decide) (by decide) (by decide) (by decide) (by decide) (by decide) (by decide) (by decide)).trans (k3 39 (by decide))
  have q40 : m4 40 = m2 40 := (b1 40 (by decide) (by decide) (by decide) (by decide) (by decide) (by decide) (by decide) (by decide) (by decide) (by decide) (by decide) (by decide) (by decide) (by decide) (by decide) (by decide)).trans (k3 40 (by decide))
  have q41 : m4 41 = m2 41 := (b1 41 (by decide) (by decide) (by decide) (by decide) (by decide) (by decide) (by decide) (by decide) (by decide) (by decide) (by decide) (by decide) (by decide) (by decide) (by decide) (by decide)).trans (k3 41 (by decide))
  have q42 : m4 42 = m2 42 := (b1 42 (by decide) (by decide) (by decide) (by decide) (by decide) (by decide) (by decide) (by decide) (by decide) (by decide) (by decide) (by decide) (by decide) (by decide) (by decide) (by decide)).trans (k3 42 (by decide))
  have q42' : m3 42 = m2 42 := k3 42 (by decide)
  have s9 : m4 37 0 9 = m2 37 0 9 := by rw [q37, em3]; rfl
  have s10 : m4 37 0 10 = m2 37 0 10 := by rw [q37, em3]; rfl
  have s10' : m3 37 0 10 = m2 37 0 10 := by rw [em3]; rfl
  refine ⟨m4, fun hr hM P hP => GX12_begins ?_, fun q hq => ?_, ?_, ?_, ?_, ⟨?_, ?_, ?_, ?_⟩, ?_, ⟨⟨?_, ?_, ?_, ?_, ?_, ?_, ?_, ?_, ?_, ?_⟩, fun v v0 v1 => ?_⟩⟩
  · rw [← em1]
    refine a4 hr hM P ?_
    rw [← em3]
    exact b4 hr hM P hP
  · rw [b1 q (by omega) (by omega) (by omega) (by omega) (by omega) (by omega) (by omega) (by omega) (by omega) (by omega) (by omega) (by omega) (by omega) (by omega) (by omega) (by omega), k3 q (by omega), a1 q (by omega) (by omega) (by omega) (by omega), k1 q (by omega)]
  · rw [b1 38 (by decide) (by decide) (by decide) (by decide) (by decide) (by decide) (by decide) (by decide) (by decide) (by decide) (by decide) (by decide) (by decide) (by decide) (by decide) (by decide), k3 38 (by decide), a1 38 (by decide) (by decide) (by decide) (by decide), k1 38 (by decide)]
  · rw [q39, a1 39 (by decide) (by decide) (by decide) (by decide), k1 39 (by decide)]
  · rw [b1 45 (by decide) (by decide) (by decide) (by decide) (by decide) (by decide) (by decide) (by decide) (by decide) (by decide) (by decide) (by decide) (by decide) (by decide) (by decide) (by decide), k3 45 (by decide), a1 45 (by decide) (by decide) (by decide) (by decide), k1 45 (by decide)]
  · rw [q37, em3]
    exact (a2 2 (by decide) (by decide)).trans (k37 2 (by decide) (by decide))
  · rw [q37, em3]
    exact (a2 4 (by decide) (by decide)).trans (k37 4 (by decide) (by decide))
  · rw [q37, em3]
    exact ((a2 5 (by decide) (by decide)).trans (k37 5 (by decide) (by decide))).trans e5
  · rw [q37, em3]
    exact ((a2 6 (by decide) (by decide)).trans (k37 6 (by decide) (by decide))).trans e6
  · rw [q39, q40, q41, q42, s9, s10]; exact a3
  · rw [q37, em3]; rfl
  · rw [q37, em3]; rfl
  · rw [q37, em3]; rfl
  · rw [q37, em3]; rfl
  · rw [q37, em3]; rfl
  · rw [q37, em3]; rfl
  · rw [q37, em3]; rfl
  · rw [q37, em3]; rfl
  · rw [q37, em3]
    exact ((a2 17 (by decide) (by decide)).trans (k37 17 (by decide) (by decide))).trans e17
  · rw [b1 45 (by decide) (by decide) (by decide) (by decide) (by decide) (by decide) (by decide) (by decide) (by decide) (by decide) (by decide) (by decide) (by decide) (by decide) (by decide) (by decide), k3 45 (by decide), a1 45 (by decide) (by decide) (by decide) (by decide), k1 45 (by decide)]
    exact e45
  · have := b3 v v0 v1
    rw [s10', q42'] at this
    rw [s10, q42]
    exact this
/-- the kinds of the text come into their place -/
theorem copy_from {ln wd : Int} {k : Int → Int} (hl : 1 ≤ ln ∧ ln ≤ 16) (hw : 1 ≤ wd ∧ wd ≤ 16) : ∀ (n : Nat) (i : Int) (m : zI), i + n = ln * wd → 0 ≤ i → m 37 0 5 = ln → m 37 0 6 = wd → (∀ y u, 0 ≤ y → y < ln → 0 ≤ u → u < wd → m 39 0 (256 + 16 * y + u) = k (y * wd + u)) → (∀ x, 0 ≤ x → x < i → m 39 0 x = k x) →
    ∃ m', (∀ q, q ≠ 39 → m' q = m q) ∧ (∀ x, 0 ≤ x → x < ln * wd → m' 39 0 x = k x) ∧ ∀ hr, RSm hr → ∀ (P : Int → zI → Prop) (a1 a2 a3 : Int) u5 u6, W1v mX12_begins [.inr (some (37, 0))] (zup (zup m' 37 0 17 1) 45 0 0 0) hr (fun hi => P 0 hi) → WP mX12_read 164 [some (.inr (some (37, 0))), some (.inl a1), some (.inl a2), some (.inl a3), some (.inl i), u5, u6] [] m hr (zQ1i hr P) := by
  have mx := mul_bd (a := ln) (b := wd) (A := 16) (B := 16) (by omega) (by omega) (by omega) (by omega)
  intro n
  induction n with
  | zero =>
    intro i m hn h0 e5 e6 hk hi
    refine ⟨m, fun _ _ => rfl, fun x x0 x1 => hi x x0 (by omega), fun hr hM P a1 a2 a3 u5 u6 hP => GX12_read_164 hM a1 a2 a3 i u5 u6 ?_⟩
    rw [e5, e6]
    exact ⟨⟨by omega, by omega⟩, fun _ => hP, fun z => absurd z (by omega)⟩
  | succ n ih =>
    intro i m hn h0 e5 e6 hk hi
    obtain ⟨y, x, y0, y1, x0, x1, e⟩ := gc_of hw.1 h0 (show i < ln * wd by omega)
    have g := gc_div (wd := wd) (x := x) y x0 x1
    have v := hk y x y0 y1 x0 x1
    obtain ⟨m', b1, b2, b3⟩ := ih (i + 1) (zup m 39 0 i (m 39 0 (256 + 16 * y + x))) (by omega) (by omega) e5 e6 (fun y' u' c1 c2 c3 c4 => by rw [zup_f _ _ _ _ _ _ (by omega)]; exact hk y' u' c1 c2 c3 c4) (fun z z0 z1 => by
      rw [zup_at]
      by_cases q : z = i
      · rw [if_pos q, v, q, e]
      · rw [if_neg q]; exact hi z z0 (by omega))
    refine ⟨m', fun q hq => (b1 q hq).trans (zup_kf _ _ _ _ hq), b2, fun hr hM P a1 a2 a3 u5 u6 hP => GX12_read_164 hM a1 a2 a3 i u5 u6 ?_⟩
    have K := b3 hr hM P a1 a2 a3 u5 u6 hP
    rw [e5, e6]
    rw [e] at K ⊢
    rw [g.1, g.2]
    have gi := gc_in y0 y1 x0 x1
    exact ⟨⟨by omega, by omega⟩, fun z => absurd z (by omega), fun _ => ⟨⟨by omega, by omega⟩, ⟨by omega, by omega⟩, ⟨by omega, by omega⟩, ⟨by omega, by omega⟩, ⟨by omega, by omega⟩, by omega, by omega, ⟨by omega, by omega⟩, K⟩⟩
