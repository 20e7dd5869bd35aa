theorem zk_30_31 (h : zI) (j s x : Int) : zup h 30 j s x 31 = h 31 := zup_kf _ _ _ _ (by decide)
theorem zk_30_32 (h : zI) (j s x : Int) : zup h 30 j s x 32 = h 32 := zup_kf _ _ _ _ (by decide)
theorem zk_30_34 (h : zI) (j s x : Int) : zup h 30 j s x 34 = h 34 := zup_kf _ _ _ _ (by decide)
theorem zk_30_35 (h : zI) (j s x : Int) : zup h 30 j s x 35 = h 35 := zup_kf _ _ _ _ (by decide)
theorem zk_31_30 (h : zI) (j s x : Int) : zup h 31 j s x 30 = h 30 := zup_kf _ _ _ _ (by decide)
theorem zk_31_32 (h : zI) (j s x : Int) : zup h 31 j s x 32 = h 32 := zup_kf _ _ _ _ (by decide)
theorem zk_31_34 (h : zI) (j s x : Int) : zup h 31 j s x 34 = h 34 := zup_kf _ _ _ _ (by decide)
theorem zk_31_35 (h : zI) (j s x : Int) : zup h 31 j s x 35 = h 35 := zup_kf _ _ _ _ (by decide)
theorem zk_32_30 (h : zI) (j s x : Int) : zup h 32 j s x 30 = h 30 := zup_kf _ _ _ _ (by decide)
theorem zk_32_31 (h : zI) (j s x : Int) : zup h 32 j s x 31 = h 31 := zup_kf _ _ _ _ (by decide)
theorem zk_32_34 (h : zI) (j s x : Int) : zup h 32 j s x 34 = h 34 := zup_kf _ _ _ _ (by decide)
theorem zk_32_35 (h : zI) (j s x : Int) : zup h 32 j s x 35 = h 35 := zup_kf _ _ _ _ (by decide)
theorem zk_34_30 (h : zI) (j s x : Int) : zup h 34 j s x 30 = h 30 := zup_kf _ _ _ _ (by decide)
theorem zk_34_31 (h : zI) (j s x : Int) : zup h 34 j s x 31 = h 31 := zup_kf _ _ _ _ (by decide)
theorem zk_34_32 (h : zI) (j s x : Int) : zup h 34 j s x 32 = h 32 := zup_kf _ _ _ _ (by decide)
theorem zk_34_35 (h : zI) (j s x : Int) : zup h 34 j s x 35 = h 35 := zup_kf _ _ _ _ (by decide)
theorem zk_35_30 (h : zI) (j s x : Int) : zup h 35 j s x 30 = h 30 := zup_kf _ _ _ _ (by decide)
theorem zk_35_31 (h : zI) (j s x : Int) : zup h 35 j s x 31 = h 31 := zup_kf _ _ _ _ (by decide)
theorem zk_35_32 (h : zI) (j s x : Int) : zup h 35 j s x 32 = h 32 := zup_kf _ _ _ _ (by decide)
theorem zk_35_34 (h : zI) (j s x : Int) : zup h 35 j s x 34 = h 34 := zup_kf _ _ _ _ (by decide)
/-- what reading changes in the class: the judge and the spare map -/
def spE (j : Int) (c c' : zI) : Prop := (∀ k, k ≠ 4 → k ≠ 5 → k ≠ 6 → k ≠ 30 → k ≠ 31 → k ≠ 32 → k ≠ 33 → k ≠ 34 → k ≠ 35 → c' k = c k) ∧ ∀ k i, (k = 30 ∨ k = 31 ∨ k = 32 ∨ k = 33 ∨ k = 34 ∨ k = 35) → i ≠ j → c' k i = c k i
theorem spE.refl (j : Int) (c : zI) : spE j c c := ⟨fun _ _ _ _ _ _ _ _ _ _ => rfl, fun _ _ _ _ => rfl⟩
theorem spE.trans {j : Int} {a b c : zI} (h : spE j a b) (h' : spE j b c) : spE j a c := ⟨fun k x1 x2 x3 x4 x5 x6 x7 x8 x9 => (h'.1 k x1 x2 x3 x4 x5 x6 x7 x8 x9).trans (h.1 k x1 x2 x3 x4 x5 x6 x7 x8 x9), fun k i x y => (h'.2 k i x y).trans (h.2 k i x y)⟩
theorem spE.zj {j : Int} {a b : zI} {k : Nat} {s x : Int} (h : spE j a b) (hk : k = 30 ∨ k = 31 ∨ k = 32 ∨ k = 33 ∨ k = 34 ∨ k = 35) : spE j a (zup b k j s x) :=
  ⟨fun q x1 x2 x3 x4 x5 x6 x7 x8 x9 => (zup_kf _ _ _ _ (by omega)).trans (h.1 q x1 x2 x3 x4 x5 x6 x7 x8 x9), fun q i y z => by
    funext s'
    rw [zup_j _ _ _ _ _ _ z, h.2 q i y z]⟩
theorem spE.z4 {j : Int} {a b : zI} {k : Nat} {s x : Int} (h : spE j a b) (hk : k = 4 ∨ k = 5 ∨ k = 6) : spE j a (zup b k 0 s x) :=
  ⟨fun q x1 x2 x3 x4 x5 x6 x7 x8 x9 => (zup_kf _ _ _ _ (by omega)).trans (h.1 q x1 x2 x3 x4 x5 x6 x7 x8 x9), fun q i y z => (congrFun (zup_kf _ _ _ _ (by omega)) i).trans (h.2 q i y z)⟩
theorem addCell_run {c : zI} {r : zR} (R : RSc r) {j q n : Int} (hj : 0 ≤ j ∧ j < 2) (hq : 0 ≤ q ∧ q ≤ 3) (en : c 30 j 5 = n) (hn : 0 ≤ n ∧ n < 256) (M : MpI (c 31 j) n (c 30 j 7) (c 30 j 8) (c 32 j) (c 34 j) (c 35 j) 10 6) :
    ∃ c', R1v mX10_addCell [.inr (some (30, j)), .inl q] c r c' ∧ spE j c c' ∧ c' 4 = c 4 ∧ c' 30 j 6 = c 30 j 6 ∧ c' 30 j 5 = n + 1 ∧ (∀ i, c' 31 j i = if i = n then q else c 31 j i) ∧ MpI (c' 31 j) (n + 1) (c' 30 j 7) (c' 30 j 8) (c' 32 j) (c' 34 j) (c' 35 j) 10 6 := by
  have b7 := cnK_le 2 (c 31 j) (show (0 : Int) ≤ 0 by omega) hn.1
  have b8 := cnK_le 3 (c 31 j) (show (0 : Int) ≤ 0 by omega) hn.1
  rw [cnK_0, ← M.1] at b7
  rw [cnK_0, ← M.2.1] at b8
  have z1 : zInR (n + 1) := ⟨by omega, by omega⟩
  by_cases q2 : q = 2
  · have hn' : 0 ≤ c 30 j 5 ∧ c 30 j 5 < 256 := by omega
    by_cases t : c 30 j 7 < 10
    · refine ⟨zup (zup (zup (zup (zup (zup c 31 j (c 30 j 5) q) 32 j (c 30 j 5) (-1)) 32 j (c 30 j 5) (c 30 j 7)) 34 j (c 30 j 7) (c 30 j 5)) 30 j 7 (c 30 j 7 + 1)) 30 j 5 (c 30 j 5 + 1), fun P hP => GX10_addCell R j q hj ⟨fun _ => ⟨hn', hn', fun z => absurd q2 z, fun _ => GX10_addStation R j hj ⟨hn', fun z => ?_, fun _ => ⟨⟨by show 0 ≤ c 30 j 7; omega, t⟩, ⟨by show -2147483648 ≤ c 30 j 7 + 1; omega, by show c 30 j 7 + 1 < 2147483648; omega⟩, ?_, ?_⟩⟩⟩, fun z => absurd z (by omega)⟩, ((((((spE.refl j c).zj (by decide)).zj (by decide)).zj (by decide)).zj (by decide)).zj (by decide)).zj (by decide), ?_, ?_, ?_, fun i => ?_, ?_⟩
      · exact absurd (show (10 : Int) ≤ c 30 j 7 from z) (by omega)
      · exact ⟨by show -2147483648 ≤ c 30 j 5 + 1; omega, by show c 30 j 5 + 1 < 2147483648; omega⟩
      · exact hP
      · simp only [zup_kf _ _ _ _ (show (4 : Nat) ≠ 30 by decide), zup_kf _ _ _ _ (show (4 : Nat) ≠ 31 by decide), zup_kf _ _ _ _ (show (4 : Nat) ≠ 32 by decide), zup_kf _ _ _ _ (show (4 : Nat) ≠ 34 by decide)]
      · simp only [zup_at, zk_30_31, zk_30_32, zk_30_34, zk_30_35, zk_31_30, zk_31_32, zk_31_34, zk_31_35, zk_32_30, zk_32_31, zk_32_34, zk_32_35, zk_34_30, zk_34_31, zk_34_32, zk_34_35, zk_35_30, zk_35_31, zk_35_32, zk_35_34]; rfl
      · simp only [zup_at, zk_30_31, zk_30_32, zk_30_34, zk_30_35, zk_31_30, zk_31_32, zk_31_34, zk_31_35, zk_32_30, zk_32_31, zk_32_34, zk_32_35, zk_34_30, zk_34_31, zk_34_32, zk_34_35, zk_35_30, zk_35_31, zk_35_32, zk_35_34]; rw [if_pos trivial, en]
      · simp only [zup_at, zk_30_31, zk_30_32, zk_30_34, zk_30_35, zk_31_30, zk_31_32, zk_31_34, zk_31_35, zk_32_30, zk_32_31, zk_32_34, zk_32_35, zk_34_30, zk_34_31, zk_34_32, zk_34_35, zk_35_30, zk_35_31, zk_35_32, zk_35_34, en]
      · refine M.step hn.1 hq (fun i hi => ?_) ?_ (fun i hi => ?_) (fun a b => absurd q2 a) (fun _ => ⟨?_, fun _ => ?_⟩) (fun z => by omega) (fun s hs => ?_) (fun s hs => ?_) ?_ ?_
        · simp only [zup_at, zk_30_31, zk_30_32, zk_30_34, zk_30_35, zk_31_30, zk_31_32, zk_31_34, zk_31_35, zk_32_30, zk_32_31, zk_32_34, zk_32_35, zk_34_30, zk_34_31, zk_34_32, zk_34_35, zk_35_30, zk_35_31, zk_35_32, zk_35_34, en]; rw [if_neg (by omega)]
        · simp only [zup_at, zk_30_31, zk_30_32, zk_30_34, zk_30_35, zk_31_30, zk_31_32, zk_31_34, zk_31_35, zk_32_30, zk_32_31, zk_32_34, zk_32_35, zk_34_30, zk_34_31, zk_34_32, zk_34_35, zk_35_30, zk_35_31, zk_35_32, zk_35_34, en]; rw [if_pos trivial]
        · simp only [zup_at, zk_30_31, zk_30_32, zk_30_34, zk_30_35, zk_31_30, zk_31_32, zk_31_34, zk_31_35, zk_32_30, zk_32_31, zk_32_34, zk_32_35, zk_34_30, zk_34_31, zk_34_32, zk_34_35, zk_35_30, zk_35_31, zk_35_32, zk_35_34, en]; rw [if_neg (by omega), if_neg (by omega)]
        · simp only [zup_at, zk_30_31, zk_30_32, zk_30_34, zk_30_35, zk_31_30, zk_31_32, zk_31_34, zk_31_35, zk_32_30, zk_32_31, zk_32_34, zk_32_35, zk_34_30, zk_34_31, zk_34_32, zk_34_35, zk_35_30, zk_35_31, zk_35_32, zk_35_34, en]; rw [if_pos trivial]
        · simp only [zup_at, zk_30_31, zk_30_32, zk_30_34, zk_30_35, zk_31_30, zk_31_32, zk_31_34, zk_31_35, zk_32_30, zk_32_31, zk_32_34, zk_32_35, zk_34_30, zk_34_31, zk_34_32, zk_34_35, zk_35_30, zk_35_31, zk_35_32, zk_35_34, en]; rw [if_pos trivial]
        · simp only [zup_at, zk_30_31, zk_30_32, zk_30_34, zk_30_35, zk_31_30, zk_31_32, zk_31_34, zk_31_35, zk_32_30, zk_32_31, zk_32_34, zk_32_35, zk_34_30, zk_34_31, zk_34_32, zk_34_35, zk_35_30, zk_35_31, zk_35_32, zk_35_34, en]; rw [if_neg (by omega)]
        · simp only [zup_at, zk_30_31, zk_30_32, zk_30_34, zk_30_35, zk_31_30, zk_31_32, zk_31_34, zk_31_35, zk_32_30, zk_32_31, zk_32_34, zk_32_35, zk_34_30, zk_34_31, zk_34_32, zk_34_35, zk_35_30, zk_35_31, zk_35_32, zk_35_34, en]
        · simp only [zup_at, zk_30_31, zk_30_32, zk_30_34, zk_30_35, zk_31_30, zk_31_32, zk_31_34, zk_31_35, zk_32_30, zk_32_31, zk_32_34, zk_32_35, zk_34_30, zk_34_31, zk_34_32, zk_34_35, zk_35_30, zk_35_31, zk_35_32, zk_35_34, en]; rw [if_pos q2]; rfl
        · simp only [zup_at, zk_30_31, zk_30_32, zk_30_34, zk_30_35, zk_31_30, zk_31_32, zk_31_34, zk_31_35, zk_32_30, zk_32_31, zk_32_34, zk_32_35, zk_34_30, zk_34_31, zk_34_32, zk_34_35, zk_35_30, zk_35_31, zk_35_32, zk_35_34, en]; rw [if_neg (by omega)]; exact (Int.add_zero _).symm
    · refine ⟨zup (zup (zup (zup (zup c 31 j (c 30 j 5) q) 32 j (c 30 j 5) (-1)) 32 j (c 30 j 5) (c 30 j 7)) 30 j 7 (c 30 j 7 + 1)) 30 j 5 (c 30 j 5 + 1), fun P hP => GX10_addCell R j q hj ⟨fun _ => ⟨hn', hn', fun z => absurd q2 z, fun _ => GX10_addStation R j hj ⟨hn', fun z => ⟨⟨by show -2147483648 ≤ c 30 j 7 + 1; omega, by show c 30 j 7 + 1 < 2147483648; omega⟩, ?_, ?_⟩, fun z => absurd (show c 30 j 7 < 10 from z) t⟩⟩, fun z => absurd z (by omega)⟩, (((((spE.refl j c).zj (by decide)).zj (by decide)).zj (by decide)).zj (by decide)).zj (by decide), ?_, ?_, ?_, fun i => ?_, ?_⟩
      · exact ⟨by show -2147483648 ≤ c 30 j 5 + 1; omega, by show c 30 j 5 + 1 < 2147483648; omega⟩
      · exact hP
      · simp only [zup_kf _ _ _ _ (show (4 : Nat) ≠ 30 by decide), zup_kf _ _ _ _ (show (4 : Nat) ≠ 31 by decide), zup_kf _ _ _ _ (show (4 : Nat) ≠ 32 by decide)]
      · simp only [zup_at, zk_30_31, zk_30_32, zk_30_34, zk_30_35, zk_31_30, zk_31_32, zk_31_34, zk_31_35, zk_32_30, zk_32_31, zk_32_34, zk_32_35, zk_34_30, zk_34_31, zk_34_32, zk_34_35, zk_35_30, zk_35_31, zk_35_32, zk_35_34]; rfl
      · simp only [zup_at, zk_30_31, zk_30_32, zk_30_34, zk_30_35, zk_31_30, zk_31_32, zk_31_34, zk_31_35, zk_32_30, zk_32_31, zk_32_34, zk_32_35, zk_34_30, zk_34_31, zk_34_32, zk_34_35, zk_35_30, zk_35_31, zk_35_32, zk_35_34]; rw [if_pos trivial, en]
      · simp only [zup_at, zk_30_31, zk_30_32, zk_30_34, zk_30_35, zk_31_30, zk_31_32, zk_31_34, zk_31_35, zk_32_30, zk_32_31, zk_32_34, zk_32_35, zk_34_30, zk_34_31, zk_34_32, zk_34_35, zk_35_30, zk_35_31, zk_35_32, zk_35_34, en]
      · refine M.step hn.1 hq (fun i hi => ?_) ?_ (fun i hi => ?_) (fun a b => absurd q2 a) (fun _ => ⟨?_, fun z => absurd z t⟩) (fun z => by omega) (fun s hs => ?_) (fun s hs => ?_) ?_ ?_
        · simp only [zup_at, zk_30_31, zk_30_32, zk_30_34, zk_30_35, zk_31_30, zk_31_32, zk_31_34, zk_31_35, zk_32_30, zk_32_31, zk_32_34, zk_32_35, zk_34_30, zk_34_31, zk_34_32, zk_34_35, zk_35_30, zk_35_31, zk_35_32, zk_35_34, en]; rw [if_neg (by omega)]
        · simp only [zup_at, zk_30_31, zk_30_32, zk_30_34, zk_30_35, zk_31_30, zk_31_32, zk_31_34, zk_31_35, zk_32_30, zk_32_31, zk_32_34, zk_32_35, zk_34_30, zk_34_31, zk_34_32, zk_34_35, zk_35_30, zk_35_31, zk_35_32, zk_35_34, en]; rw [if_pos trivial]
        · simp only [zup_at, zk_30_31, zk_30_32, zk_30_34, zk_30_35, zk_31_30, zk_31_32, zk_31_34, zk_31_35, zk_32_30, zk_32_31, zk_32_34, zk_32_35, zk_34_30, zk_34_31, zk_34_32, zk_34_35, zk_35_30, zk_35_31, zk_35_32, zk_35_34, en]; rw [if_neg (by omega), if_neg (by omega)]
        · simp only [zup_at, zk_30_31, zk_30_32, zk_30_34, zk_30_35, zk_31_30, zk_31_32, zk_31_34, zk_31_35, zk_32_30, zk_32_31, zk_32_34, zk_32_35, zk_34_30, zk_34_31, zk_34_32, zk_34_35, zk_35_30, zk_35_31, zk_35_32, zk_35_34, en]; rw [if_pos trivial]
        · simp only [zup_at, zk_30_31, zk_30_32, zk_30_34, zk_30_35, zk_31_30, zk_31_32, zk_31_34, zk_31_35, zk_32_30, zk_32_31, zk_32_34, zk_32_35, zk_34_30, zk_34_31, zk_34_32, zk_34_35, zk_35_30, zk_35_31, zk_35_32, zk_35_34, en]
        · simp only [zup_at, zk_30_31, zk_30_32, zk_30_34, zk_30_35, zk_31_30, zk_31_32, zk_31_34, zk_31_35, zk_32_30, zk_32_31, zk_32_34, zk_32_35, zk_34_30, zk_34_31, zk_34_32, zk_34_35, zk_35_30, zk_35_31, zk_35_32, zk_35_34, en]
        · simp only [zup_at, zk_30_31, zk_30_32, zk_30_34, zk_30_35, zk_31_30, zk_31_32, zk_31_34, zk_31_35, zk_32_30, zk_32_31, zk_32_34, zk_32_35, zk_34_30, zk_34_31, zk_34_32, zk_34_35, zk_35_30, zk_35_31, zk_35_32, zk_35_34, en]; rw [if_pos q2]; rfl
        · simp only [zup_at, zk_30_31, zk_30_32, zk_30_34, zk_30_35, zk_31_30, zk_31_32, zk_31_34, zk_31_35, zk_32_30, zk_32_31, zk_32_34, zk_32_35, zk_34_30, zk_34_31, zk_34_32, zk_34_35, zk_35_30, zk_35_31, zk_35_32, zk_35_34, en]; rw [if_neg (by omega)]; exact (Int.add_zero _).symm
  · by_cases q3 : q = 3
    · have hn' : 0 ≤ c 30 j 5 ∧ c 30 j 5 < 256 := by omega
      by_cases t : c 30 j 8 < 6
      · refine ⟨zup (zup (zup (zup (zup (zup c 31 j (c 30 j 5) q) 32 j (c 30 j 5) (-1)) 32 j (c 30 j 5) (c 30 j 8)) 35 j (c 30 j 8) (c 30 j 5)) 30 j 8 (c 30 j 8 + 1)) 30 j 5 (c 30 j 5 + 1), fun P hP => GX10_addCell R j q hj ⟨fun _ => ⟨hn', hn', fun _ => ⟨fun z => absurd q3 z, fun _ => GX10_addParking R j hj ⟨hn', fun z => ?_, fun _ => ⟨⟨by show 0 ≤ c 30 j 8; omega, t⟩, ⟨by show -2147483648 ≤ c 30 j 8 + 1; omega, by show c 30 j 8 + 1 < 2147483648; omega⟩, ?_, ?_⟩⟩⟩, fun z => absurd z q2⟩, fun z => absurd z (by omega)⟩, ((((((spE.refl j c).zj (by decide)).zj (by decide)).zj (by decide)).zj (by decide)).zj (by decide)).zj (by decide), ?_, ?_, ?_, fun i => ?_, ?_⟩
        · exact absurd (show (6 : Int) ≤ c 30 j 8 from z) (by omega)
        · exact ⟨by show -2147483648 ≤ c 30 j 5 + 1; omega, by show c 30 j 5 + 1 < 2147483648; omega⟩
        · exact hP
        · simp only [zup_kf _ _ _ _ (show (4 : Nat) ≠ 30 by decide), zup_kf _ _ _ _ (show (4 : Nat) ≠ 31 by decide), zup_kf _ _ _ _ (show (4 : Nat) ≠ 32 by decide), zup_kf _ _ _ _ (show (4 : Nat) ≠ 35 by decide)]
        · simp only [zup_at, zk_30_31, zk_30_32, zk_30_34, zk_30_35, zk_31_30, zk_31_32, zk_31_34, zk_31_35, zk_32_30, zk_32_31, zk_32_34, zk_32_35, zk_34_30, zk_34_31, zk_34_32, zk_34_35, zk_35_30, zk_35_31, zk_35_32, zk_35_34]; rfl
        · simp only [zup_at, zk_30_31, zk_30_32, zk_30_34, zk_30_35, zk_31_30, zk_31_32, zk_31_34, zk_31_35, zk_32_30, zk_32_31, zk_32_34, zk_32_35, zk_34_30, zk_34_31, zk_34_32, zk_34_35, zk_35_30, zk_35_31, zk_35_32, zk_35_34]; rw [if_pos trivial, en]
        · simp only [zup_at, zk_30_31, zk_30_32, zk_30_34, zk_30_35, zk_31_30, zk_31_32, zk_31_34, zk_31_35, zk_32_30, zk_32_31, zk_32_34, zk_32_35, zk_34_30, zk_34_31, zk_34_32, zk_34_35, zk_35_30, zk_35_31, zk_35_32, zk_35_34, en]
        · refine M.step hn.1 hq (fun i hi => ?_) ?_ (fun i hi => ?_) (fun a b => absurd q3 b) (fun z => by omega) (fun _ => ⟨?_, fun _ => ?_⟩) (fun s hs => ?_) (fun s hs => ?_) ?_ ?_
          · simp only [zup_at, zk_30_31, zk_30_32, zk_30_34, zk_30_35, zk_31_30, zk_31_32, zk_31_34, zk_31_35, zk_32_30, zk_32_31, zk_32_34, zk_32_35, zk_34_30, zk_34_31, zk_34_32, zk_34_35, zk_35_30, zk_35_31, zk_35_32, zk_35_34, en]; rw [if_neg (by omega)]
          · simp only [zup_at, zk_30_31, zk_30_32, zk_30_34, zk_30_35, zk_31_30, zk_31_32, zk_31_34, zk_31_35, zk_32_30, zk_32_31, zk_32_34, zk_32_35, zk_34_30, zk_34_31, zk_34_32, zk_34_35, zk_35_30, zk_35_31, zk_35_32, zk_35_34, en]; rw [if_pos trivial]
          · simp only [zup_at, zk_30_31, zk_30_32, zk_30_34, zk_30_35, zk_31_30, zk_31_32, zk_31_34, zk_31_35, zk_32_30, zk_32_31, zk_32_34, zk_32_35, zk_34_30, zk_34_31, zk_34_32, zk_34_35, zk_35_30, zk_35_31, zk_35_32, zk_35_34, en]; rw [if_neg (by omega), if_neg (by omega)]
          · simp only [zup_at, zk_30_31, zk_30_32, zk_30_34, zk_30_35, zk_31_30, zk_31_32, zk_31_34, zk_31_35, zk_32_30, zk_32_31, zk_32_34, zk_32_35, zk_34_30, zk_34_31, zk_34_32, zk_34_35, zk_35_30, zk_35_31, zk_35_32, zk_35_34, en]; rw [if_pos trivial]
          · simp only [zup_at, zk_30_31, zk_30_32, zk_30_34, zk_30_35, zk_31_30, zk_31_32, zk_31_34, zk_31_35, zk_32_30, zk_32_31, zk_32_34, zk_32_35, zk_34_30, zk_34_31, zk_34_32, zk_34_35, zk_35_30, zk_35_31, zk_35_32, zk_35_34, en]; rw [if_pos trivial]
          · simp only [zup_at, zk_30_31, zk_30_32, zk_30_34, zk_30_35, zk_31_30, zk_31_32, zk_31_34, zk_31_35, zk_32_30, zk_32_31, zk_32_34, zk_32_35, zk_34_30, zk_34_31, zk_34_32, zk_34_35, zk_35_30, zk_35_31, zk_35_32, zk_35_34, en]
          · simp only [zup_at, zk_30_31, zk_30_32, zk_30_34, zk_30_35, zk_31_30, zk_31_32, zk_31_34, zk_31_35, zk_32_30, zk_32_31, zk_32_34, zk_32_35, zk_34_30, zk_34_31, zk_34_32, zk_34_35, zk_35_30, zk_35_31, zk_35_32, zk_35_34, en]; rw [if_neg (by omega)]
          · simp only [zup_at, zk_30_31, zk_30_32, zk_30_34, zk_30_35, zk_31_30, zk_31_32, zk_31_34, zk_31_35, zk_32_30, zk_32_31, zk_32_34, zk_32_35, zk_34_30, zk_34_31, zk_34_32, zk_34_35, zk_35_30, zk_35_31, zk_35_32, zk_35_34, en]; rw [if_neg (by omega)]; exact (Int.add_zero _).symm
          · simp only [zup_at, zk_30_31, zk_30_32, zk_30_34, zk_30_35, zk_31_30, zk_31_32, zk_31_34, zk_31_35, zk_32_30, zk_32_31, zk_32_34, zk_32_35, zk_34_30, zk_34_31, zk_34_32, zk_34_35, zk_35_30, zk_35_31, zk_35_32, zk_35_34, en]; rw [if_pos q3]; rfl
      · refine ⟨zup (zup (zup (zup (zup c 31 j (c 30 j 5) q) 32 j (c 30 j 5) (-1)) 32 j (c 30 j 5) (c 30 j 8)) 30 j 8 (c 30 j 8 + 1)) 30 j 5 (c 30 j 5 + 1), fun P hP => GX10_addCell R j q hj ⟨fun _ => ⟨hn', hn', fun _ => ⟨fun z => absurd q3 z, fun _ => GX10_addParking R j hj ⟨hn', fun z => ⟨⟨by show -2147483648 ≤ c 30 j 8 + 1; omega, by show c 30 j 8 + 1 < 2147483648; omega⟩, ?_, ?_⟩, fun z => absurd (show c 30 j 8 < 6 from z) t⟩⟩, fun z => absurd z q2⟩, fun z => absurd z (by omega)⟩, (((((spE.refl j c).zj (by decide)).zj (by decide)).zj (by decide)).zj (by decide)).zj (by decide), ?_, ?_, ?_, fun i => ?_, ?_⟩
        · exact ⟨by show -2147483648 ≤ c 30 j 5 + 1; omega, by show c 30 j 5 + 1 < 2147483648; omega⟩
        · exact hP
        · simp only [zup_kf _ _ _ _ (show (4 : Nat) ≠ 30 by decide), zup_kf _ _ _ _ (show (4 : Nat) ≠ 31 by decide), zup_kf _ _ _ _ (show (4 : Nat) ≠ 32 by decide)]
        · simp only [zup_at, zk_30_31, zk_30_32, zk_30_34, zk_30_35, zk_31_30, zk_31_32, zk_31_34, zk_31_35, zk_32_30, zk_32_31, zk_32_34, zk_32_35, zk_34_30, zk_34_31, zk_34_32, zk_34_35, zk_35_30, zk_35_31, zk_35_32, zk_35_34]; rfl
        · simp only [zup_at, zk_30_31, zk_30_32, zk_30_34, zk_30_35, zk_31_30, zk_31_32, zk_31_34, zk_31_35, zk_32_30, zk_32_31, zk_32_34, zk_32_35, zk_34_30, zk_34_31, zk_34_32, zk_34_35, zk_35_30, zk_35_31, zk_35_32, zk_35_34]; rw [if_pos trivial, en]
        · simp only [zup_at, zk_30_31, zk_30_32, zk_30_34, zk_30_35, zk_31_30, zk_31_32, zk_31_34, zk_31_35, zk_32_30, zk_32_31, zk_32_34, zk_32_35, zk_34_30, zk_34_31, zk_34_32, zk_34_35, zk_35_30, zk_35_31, zk_35_32, zk_35_34, en]
        · refine M.step hn.1 hq (fun i hi => ?_) ?_ (fun i hi => ?_) (fun a b => absurd q3 b) (fun z => by omega) (fun _ => ⟨?_, fun z => absurd z t⟩) (fun s hs => ?_) (fun s hs => ?_) ?_ ?_
          · simp only [zup_at, zk_30_31, zk_30_32, zk_30_34, zk_30_35, zk_31_30, zk_31_32, zk_31_34, zk_31_35, zk_32_30, zk_32_31, zk_32_34, zk_32_35, zk_34_30, zk_34_31, zk_34_32, zk_34_35, zk_35_30, zk_35_31, zk_35_32, zk_35_34, en]; rw [if_neg (by omega)]
          · simp only [zup_at, zk_30_31, zk_30_32, zk_30_34, zk_30_35, zk_31_30, zk_31_32, zk_31_34, zk_31_35, zk_32_30, zk_32_31, zk_32_34, zk_32_35, zk_34_30, zk_34_31, zk_34_32, zk_34_35, zk_35_30, zk_35_31, zk_35_32, zk_35_34, en]; rw [if_pos trivial]
          · simp only [zup_at, zk_30_31, zk_30_32, zk_30_34, zk_30_35, zk_31_30, zk_31_32, zk_31_34, zk_31_35, zk_32_30, zk_32_31, zk_32_34, zk_32_35, zk_34_30, zk_34_31, zk_34_32, zk_34_35, zk_35_30, zk_35_31, zk_35_32, zk_35_34, en]; rw [if_neg (by omega), if_neg (by omega)]
          · simp only [zup_at, zk_30_31, zk_30_32, zk_30_34, zk_30_35, zk_31_30, zk_31_32, zk_31_34, zk_31_35, zk_32_30, zk_32_31, zk_32_34, zk_32_35, zk_34_30, zk_34_31, zk_34_32, zk_34_35, zk_35_30, zk_35_31, zk_35_32, zk_35_34, en]; rw [if_pos trivial]
          · simp only [zup_at, zk_30_31, zk_30_32, zk_30_34, zk_30_35, zk_31_30, zk_31_32, zk_31_34, zk_31_35, zk_32_30, zk_32_31, zk_32_34, zk_32_35, zk_34_30, zk_34_31, zk_34_32, zk_34_35, zk_35_30, zk_35_31, zk_35_32, zk_35_34, en]
          · simp only [zup_at, zk_30_31, zk_30_32, zk_30_34, zk_30_35, zk_31_30, zk_31_32, zk_31_34, zk_31_35, zk_32_30, zk_32_31, zk_32_34, zk_32_35, zk_34_30, zk_34_31, zk_34_32, zk_34_35, zk_35_30, zk_35_31, zk_35_32, zk_35_34, en]
          · simp only [zup_at, zk_30_31, zk_30_32, zk_30_34, zk_30_35, zk_31_30, zk_31_32, zk_31_34, zk_31_35, zk_32_30, zk_32_31, zk_32_34, zk_32_35, zk_34_30, zk_34_31, zk_34_32, zk_34_35, zk_35_30, zk_35_31, zk_35_32, zk_35_34, en]; rw [if_neg (by omega)]; exact (Int.add_zero _).symm
          · simp only [zup_at, zk_30_31, zk_30_32, zk_30_34, zk_30_35, zk_31_30, zk_31_32, zk_31_34, zk_31_35, zk_32_30, zk_32_31, zk_32_34, zk_32_35, zk_34_30, zk_34_31, zk_34_32, zk_34_35, zk_35_30, zk_35_31, zk_35_32, zk_35_34, en]; rw [if_pos q3]; rfl
    · refine ⟨zup (zup (zup c 31 j (c 30 j 5) q) 32 j (c 30 j 5) (-1)) 30 j 5 (c 30 j 5 + 1), fun P hP => GX10_addCell R j q hj ⟨fun _ => ⟨by omega, by omega, fun _ => ⟨fun _ => ⟨by rw [en]; exact z1, hP⟩, fun z => absurd z q3⟩, fun z => absurd z q2⟩, fun z => absurd z (by omega)⟩, (((spE.refl j c).zj (by decide)).zj (by decide)).zj (by decide), ?_, ?_, ?_, fun i => ?_, ?_⟩
      · simp only [zup_kf _ _ _ _ (show (4 : Nat) ≠ 30 by decide), zup_kf _ _ _ _ (show (4 : Nat) ≠ 31 by decide), zup_kf _ _ _ _ (show (4 : Nat) ≠ 32 by decide)]
      · simp only [zup_at, zk_30_31, zk_30_32, zk_30_34, zk_30_35, zk_31_30, zk_31_32, zk_31_34, zk_31_35, zk_32_30, zk_32_31, zk_32_34, zk_32_35, zk_34_30, zk_34_31, zk_34_32, zk_34_35, zk_35_30, zk_35_31, zk_35_32, zk_35_34]; rfl
      · simp only [zup_at, zk_30_31, zk_30_32, zk_30_34, zk_30_35, zk_31_30, zk_31_32, zk_31_34, zk_31_35, zk_32_30, zk_32_31, zk_32_34, zk_32_35, zk_34_30, zk_34_31, zk_34_32, zk_34_35, zk_35_30, zk_35_31, zk_35_32, zk_35_34]; rw [if_pos trivial, en]
      · simp only [zup_at, zk_30_31, zk_30_32, zk_30_34, zk_30_35, zk_31_30, zk_31_32, zk_31_34, zk_31_35, zk_32_30, zk_32_31, zk_32_34, zk_32_35, zk_34_30, zk_34_31, zk_34_32, zk_34_35, zk_35_30, zk_35_31, zk_35_32, zk_35_34, en]
      · refine M.step hn.1 hq (fun i hi => ?_) ?_ (fun i hi => ?_) (fun a b => ?_) (fun z => absurd z q2) (fun z => absurd z q3) (fun s hs => ?_) (fun s hs => ?_) ?_ ?_
        · simp only [zup_at, zk_30_31, zk_30_32, zk_30_34, zk_30_35, zk_31_30, zk_31_32, zk_31_34, zk_31_35, zk_32_30, zk_32_31, zk_32_34, zk_32_35, zk_34_30, zk_34_31, zk_34_32, zk_34_35, zk_35_30, zk_35_31, zk_35_32, zk_35_34, en]; rw [if_neg (by omega)]
        · simp only [zup_at, zk_30_31, zk_30_32, zk_30_34, zk_30_35, zk_31_30, zk_31_32, zk_31_34, zk_31_35, zk_32_30, zk_32_31, zk_32_34, zk_32_35, zk_34_30, zk_34_31, zk_34_32, zk_34_35, zk_35_30, zk_35_31, zk_35_32, zk_35_34, en]; rw [if_pos trivial]
        · simp only [zup_at, zk_30_31, zk_30_32, zk_30_34, zk_30_35, zk_31_30, zk_31_32, zk_31_34, zk_31_35, zk_32_30, zk_32_31, zk_32_34, zk_32_35, zk_34_30, zk_34_31, zk_34_32, zk_34_35, zk_35_30, zk_35_31, zk_35_32, zk_35_34, en]; rw [if_neg (by omega)]
        · simp only [zup_at, zk_30_31, zk_30_32, zk_30_34, zk_30_35, zk_31_30, zk_31_32, zk_31_34, zk_31_35, zk_32_30, zk_32_31, zk_32_34, zk_32_35, zk_34_30, zk_34_31, zk_34_32, zk_34_35, zk_35_30, zk_35_31, zk_35_32, zk_35_34, en]; rw [if_pos trivial]
        · simp only [zk_30_31, zk_30_32, zk_30_34, zk_30_35, zk_31_30, zk_31_32, zk_31_34, zk_31_35, zk_32_30, zk_32_31, zk_32_34, zk_32_35, zk_34_30, zk_34_31, zk_34_32, zk_34_35, zk_35_30, zk_35_31, zk_35_32, zk_35_34]
        · simp only [zk_30_31, zk_30_32, zk_30_34, zk_30_35, zk_31_30, zk_31_32, zk_31_34, zk_31_35, zk_32_30, zk_32_31, zk_32_34, zk_32_35, zk_34_30, zk_34_31, zk_34_32, zk_34_35, zk_35_30, zk_35_31, zk_35_32, zk_35_34]
        · simp only [zup_at, zk_30_31, zk_30_32, zk_30_34, zk_30_35, zk_31_30, zk_31_32, zk_31_34, zk_31_35, zk_32_30, zk_32_31, zk_32_34, zk_32_35, zk_34_30, zk_34_31, zk_34_32, zk_34_35, zk_35_30, zk_35_31, zk_35_32, zk_35_34, en]; rw [if_neg q2]; exact (Int.add_zero _).symm
        · simp only [zup_at, zk_30_31, zk_30_32, zk_30_34, zk_30_35, zk_31_30, zk_31_32, zk_31_34, zk_31_35, zk_32_30, zk_32_31, zk_32_34, zk_32_35, zk_34_30, zk_34_31, zk_34_32, zk_34_35, zk_35_30, zk_35_31, zk_35_32, zk_35_34, en]; rw [if_neg q3]; exact (Int.add_zero _).symm
