/-- a task is given: the class's cells, the reference's -/
def gvC (c : zI) (v gi tk : Int) : zI := zup (zup (zup (zup (zup (zup c 24 v 1 (c 24 v 1 + 1)) 24 v 2 gi) 24 v 5 0) 14 0 gi v) 15 0 gi tk) 11 0 6 (c 11 0 6 + 1)
def gvM (m : zI) (v : Int) : zI := zup (zup (zup (zup (zup (zup (zup m 74 0 v 0) 77 0 v (m 77 0 v + 1)) 78 0 v (m 37 0 20)) 79 0 v 0) 48 0 (m 37 0 20) v) 49 0 (m 37 0 20) (m 37 0 61)) 37 0 20 (m 37 0 20 + 1)
theorem gvC_k (c : zI) (v gi tk : Int) {q : Nat} (h1 : q ≠ 24) (h2 : q ≠ 14) (h3 : q ≠ 15) (h4 : q ≠ 11) : gvC c v gi tk q = c q := by
  unfold gvC
  rw [zup_kf _ _ _ _ h4, zup_kf _ _ _ _ h3, zup_kf _ _ _ _ h2, zup_kf _ _ _ _ h1, zup_kf _ _ _ _ h1, zup_kf _ _ _ _ h1]
theorem gvC_11 (c : zI) (v gi tk s : Int) : gvC c v gi tk 11 0 s = if s = 6 then c 11 0 6 + 1 else c 11 0 s := by
  unfold gvC
  rw [zup_at, zup_kf _ _ _ _ (by decide), zup_kf _ _ _ _ (by decide), zup_kf _ _ _ _ (by decide), zup_kf _ _ _ _ (by decide), zup_kf _ _ _ _ (by decide)]
theorem gvC_14 (c : zI) (v gi tk s : Int) : gvC c v gi tk 14 0 s = if s = gi then v else c 14 0 s := by
  unfold gvC
  rw [zup_kf _ _ _ _ (by decide), zup_kf _ _ _ _ (by decide), zup_at, zup_kf _ _ _ _ (by decide), zup_kf _ _ _ _ (by decide), zup_kf _ _ _ _ (by decide)]
theorem gvC_15 (c : zI) (v gi tk s : Int) : gvC c v gi tk 15 0 s = if s = gi then tk else c 15 0 s := by
  unfold gvC
  rw [zup_kf _ _ _ _ (by decide), zup_at, zup_kf _ _ _ _ (by decide), zup_kf _ _ _ _ (by decide), zup_kf _ _ _ _ (by decide), zup_kf _ _ _ _ (by decide)]
theorem gvC_24 (c : zI) (v gi tk u s : Int) : gvC c v gi tk 24 u s = if u = v then (if s = 5 then 0 else if s = 2 then gi else if s = 1 then c 24 v 1 + 1 else c 24 v s) else c 24 u s := by
  unfold gvC
  rw [zup_kf _ _ _ _ (by decide), zup_kf _ _ _ _ (by decide), zup_kf _ _ _ _ (by decide), zup_v, zup_v, zup_v]
  by_cases q : u = v
  · subst q
    rw [if_pos rfl]
    by_cases q5 : s = 5
    · rw [if_pos ⟨rfl, q5⟩, if_pos q5]
    · rw [if_neg (fun y => q5 y.2), if_neg q5]
      by_cases q2 : s = 2
      · rw [if_pos ⟨rfl, q2⟩, if_pos q2]
      · rw [if_neg (fun y => q2 y.2), if_neg q2]
        by_cases q1 : s = 1
        · rw [if_pos ⟨rfl, q1⟩, if_pos q1]
        · rw [if_neg (fun y => q1 y.2), if_neg q1]
  · rw [if_neg (fun y => q y.1), if_neg (fun y => q y.1), if_neg (fun y => q y.1), if_neg q]
theorem gvM_k (m : zI) (v : Int) {q : Nat} (h1 : q ≠ 74) (h2 : q ≠ 77) (h3 : q ≠ 78) (h4 : q ≠ 79) (h5 : q ≠ 48) (h6 : q ≠ 49) (h7 : q ≠ 37) : gvM m v q = m q := by
  unfold gvM
  rw [zup_kf _ _ _ _ h7, zup_kf _ _ _ _ h6, zup_kf _ _ _ _ h5, zup_kf _ _ _ _ h4, zup_kf _ _ _ _ h3, zup_kf _ _ _ _ h2, zup_kf _ _ _ _ h1]
theorem gvM_37 (m : zI) (v s : Int) : gvM m v 37 0 s = if s = 20 then m 37 0 20 + 1 else m 37 0 s := by
  unfold gvM
  rw [zup_at, zup_kf _ _ _ _ (by decide), zup_kf _ _ _ _ (by decide), zup_kf _ _ _ _ (by decide), zup_kf _ _ _ _ (by decide), zup_kf _ _ _ _ (by decide), zup_kf _ _ _ _ (by decide)]
theorem gvM_49 (m : zI) (v s : Int) : gvM m v 49 0 s = if s = m 37 0 20 then m 37 0 61 else m 49 0 s := by
  unfold gvM
  rw [zup_kf _ _ _ _ (by decide), zup_at, zup_kf _ _ _ _ (by decide), zup_kf _ _ _ _ (by decide), zup_kf _ _ _ _ (by decide), zup_kf _ _ _ _ (by decide), zup_kf _ _ _ _ (by decide)]
theorem gvM_48 (m : zI) (v s : Int) : gvM m v 48 0 s = if s = m 37 0 20 then v else m 48 0 s := by
  unfold gvM
  rw [zup_kf _ _ _ _ (by decide), zup_kf _ _ _ _ (by decide), zup_at, zup_kf _ _ _ _ (by decide), zup_kf _ _ _ _ (by decide), zup_kf _ _ _ _ (by decide), zup_kf _ _ _ _ (by decide)]
theorem gvM_79 (m : zI) (v s : Int) : gvM m v 79 0 s = if s = v then 0 else m 79 0 s := by
  unfold gvM
  rw [zup_kf _ _ _ _ (by decide), zup_kf _ _ _ _ (by decide), zup_kf _ _ _ _ (by decide), zup_at, zup_kf _ _ _ _ (by decide), zup_kf _ _ _ _ (by decide), zup_kf _ _ _ _ (by decide)]
theorem gvM_78 (m : zI) (v s : Int) : gvM m v 78 0 s = if s = v then m 37 0 20 else m 78 0 s := by
  unfold gvM
  rw [zup_kf _ _ _ _ (by decide), zup_kf _ _ _ _ (by decide), zup_kf _ _ _ _ (by decide), zup_kf _ _ _ _ (by decide), zup_at, zup_kf _ _ _ _ (by decide), zup_kf _ _ _ _ (by decide)]
theorem gvM_77 (m : zI) (v s : Int) : gvM m v 77 0 s = if s = v then m 77 0 v + 1 else m 77 0 s := by
  unfold gvM
  rw [zup_kf _ _ _ _ (by decide), zup_kf _ _ _ _ (by decide), zup_kf _ _ _ _ (by decide), zup_kf _ _ _ _ (by decide), zup_kf _ _ _ _ (by decide), zup_at, zup_kf _ _ _ _ (by decide)]
theorem gvM_74 (m : zI) (v s : Int) : gvM m v 74 0 s = if s = v then 0 else m 74 0 s := by
  unfold gvM
  rw [zup_kf _ _ _ _ (by decide), zup_kf _ _ _ _ (by decide), zup_kf _ _ _ _ (by decide), zup_kf _ _ _ _ (by decide), zup_kf _ _ _ _ (by decide), zup_kf _ _ _ _ (by decide), zup_at]
theorem RlR.give {c25 c26 c27 c28 d25 d26 d27 d28 : Int → Int → Int} {vn tk cn v : Int} {m42 m51 m52 m53 m54 m55 m56 m77 n51 n52 n53 n54 n55 n56 n77 : Int → Int} (h : RlR c25 c26 c27 c28 vn tk cn m42 m51 m52 m53 m54 m55 m56 m77) (hv : 0 ≤ v ∧ v < vn) (htk : 0 ≤ tk ∧ tk ≤ 600)
    (e25 : ∀ u, u ≠ v → d25 u = c25 u) (e26 : ∀ u, u ≠ v → d26 u = c26 u) (e27 : ∀ u, u ≠ v → d27 u = c27 u) (e28 : ∀ u, u ≠ v → d28 u = c28 u)
    (f1 : ∀ u, u ≠ v → n52 u = m52 u ∧ n53 u = m53 u ∧ n54 u = m54 u) (f2 : ∀ z, (z < 301 * v ∨ 301 * v + 301 ≤ z) → n51 z = m51 z ∧ n55 z = m55 z ∧ n56 z = m56 z) (f3 : ∀ u, n77 u = if u = v then m77 v + 1 else m77 u)
    (hm : m77 v + 1 ≤ 60) {N p : Int} (hN : 0 ≤ N ∧ N ≤ 300) (g52 : n52 v = tk) (g53 : n53 v = tk + N) (g51 : n51 (301 * v) = m42 v) (g3 : d25 v 2 = m42 v) (hp : p % 3 = 2)
    (pr : d25 v 3 = tk ∧ d25 v 4 = N ∧ d25 v 5 = n54 v ∧ 0 ≤ n54 v ∧ n54 v ≤ N ∧
      (∀ j, 1 ≤ j → j ≤ n54 v → d27 v j = n55 (301 * v + j) ∧ d28 v j = n56 (301 * v + j) ∧ -1 ≤ n55 (301 * v + j) ∧ n55 (301 * v + j) < cn ∧ (n55 (301 * v + j) = -1 ↔ (j = d25 v 6 ∨ j = d25 v 7)) ∧ 0 ≤ n56 (301 * v + j) ∧ n56 (301 * v + j) ≤ tk + N) ∧
      (∀ j j', 1 ≤ j → j < j' → j' ≤ n54 v → n56 (301 * v + j) < n56 (301 * v + j')) ∧
      ((p % 3 = 0 ∧ d25 v 6 = 0 ∧ d25 v 7 = 0) ∨ (p % 3 = 1 ∧ 1 ≤ d25 v 6 ∧ d25 v 6 ≤ n54 v ∧ d25 v 7 = 0) ∨ (p % 3 = 2 ∧ 1 ≤ d25 v 6 ∧ d25 v 6 < d25 v 7 ∧ d25 v 7 ≤ n54 v)) ∧
      (∀ j, 0 ≤ j → j ≤ N → d26 v j = n51 (301 * v + j) ∧ 0 ≤ d26 v j ∧ d26 v j < cn)) : RlR d25 d26 d27 d28 vn tk cn m42 n51 n52 n53 n54 n55 n56 n77 := by
  intro u u0 u1
  by_cases q : u = v
  · subst q
    obtain ⟨h1, h2, h3, h4, h5, h6, h7, h8, h9⟩ := h u u0 u1
    obtain ⟨p1, p2, p3, p4, p5, p6, p7, p8, p9⟩ := pr
    rw [f3, if_pos rfl]
    have p8' : 1 ≤ d25 u 6 ∧ d25 u 6 < d25 u 7 ∧ d25 u 7 ≤ n54 u := by omega
    refine ⟨g3, p3, p4, by omega, by omega, hm, fun i i0 i1 => ?_, p7, Or.inr ⟨by omega, p8'.1, p8'.2.1, p8'.2.2, by omega, by omega, by omega, by omega, by omega, by omega, g51, fun i i0 i1 => p9 i i0 (by omega)⟩⟩
    obtain ⟨y1, y2, y3, y4, y5, y6, y7⟩ := p6 i i0 i1
    exact ⟨y1, y2, y3, y4, y5, y6, by omega⟩
  · obtain ⟨h1, h2, h3, h4, h5, h6, h7, h8, h9⟩ := h u u0 u1
    obtain ⟨k1, k2, k3⟩ := f1 u q
    rw [e25 u q, e26 u q, e27 u q, e28 u q, f3, if_neg q, k1, k2, k3]
    refine ⟨h1, h2, h3, h4, h5, h6, fun i i0 i1 => ?_, fun i i' i0 i1 i2 => ?_, ?_⟩
    · rw [(f2 (301 * u + i) (by omega)).2.1, (f2 (301 * u + i) (by omega)).2.2]
      exact h7 i i0 i1
    · rw [(f2 (301 * u + i) (by omega)).2.2, (f2 (301 * u + i') (by omega)).2.2]
      exact h8 i i' i0 i1 i2
    · rcases h9 with w | ⟨w1, w2, w3, w4, w5, w6, w7, w8, w9, w10, w11, w12⟩
      · exact Or.inl w
      · refine Or.inr ⟨w1, w2, w3, w4, w5, w6, w7, w8, w9, w10, ?_, fun i i0 i1 => ?_⟩
        · rw [(f2 (301 * u) (by omega)).1]; exact w11
        · rw [(f2 (301 * u + i) (by omega)).1]; exact w12 i i0 i1
theorem RlI.give {c25 d25 : Int → Int → Int} {vn v : Int} {m54 m55 m68 m69 m70 m71 m72 m75 m76 m77 m79 n54 n55 n77 n79 : Int → Int} (h : RlI c25 vn m54 m55 m68 m69 m70 m71 m72 m75 m76 m77 m79) (hb : ∀ u, 0 ≤ u → u < vn → m54 u ≤ 300) (h71 : m71 v = 0 ∨ m71 v = 1) (hJ : m69 v = m77 v ∧ m54 v ≤ m70 v)
    (e25 : ∀ u, u ≠ v → d25 u = c25 u) (f1 : ∀ u, u ≠ v → n54 u = m54 u) (f2 : ∀ z, (z < 301 * v ∨ 301 * v + 301 ≤ z) → n55 z = m55 z) (f3 : ∀ u, n77 u = if u = v then m77 v + 1 else m77 u) (f4 : ∀ u, n79 u = if u = v then 0 else m79 u) (hn : 0 ≤ n54 v) : RlI d25 vn n54 n55 m68 m69 m70 m71 m72 m75 m76 n77 n79 := by
  intro u u0 u1
  obtain ⟨w1, w2, w3, w4, w5, w6, w7, w8, w9, w10, w11⟩ := h u u0 u1
  by_cases q : u = v
  · subst q
    obtain ⟨x1, x2, x3⟩ := w5 hJ.1
    have e71 : m71 u = 0 := by
      rcases h71 with z | z
      · exact z
      · have := (x2 z).1; omega
    have e68 : m68 u = 0 := by
      rw [x3, if_pos (Or.inl hJ.2)]
    rw [f3, if_pos rfl, f4, if_pos rfl]
    exact ⟨Or.inr (by omega), w2, w3, w4, fun z => by omega, fun _ => ⟨e71, e68⟩, w7, w8, w9, by omega, hn⟩
  · rw [e25 u q, f1 u q, f3, if_neg q, f4, if_neg q]
    have b := hb u u0 u1
    refine ⟨w1, w2, w3, w4, fun z => ?_, w6, w7, w8, w9, w10, w11⟩
    obtain ⟨x1, x2, x3⟩ := w5 z
    refine ⟨x1, fun y => ?_, x3⟩
    have := x2 y
    rw [f2 _ (by omega)]
    exact this
theorem RlG.give {r9 : Int → Option (Nat × Int)} {c10 : Int → Int → Int} {sz vn tk e sb sent cm v : Int} {m54 m55 m69 m70 m77 m59 m60 m61 m62 m63 m64 m65 n54 n55 n77 : Int → Int} (h : RlG r9 c10 sz vn tk e sb sent cm m54 m55 m69 m70 m77 m59 m60 m61 m62 m63 m64 m65) (hb : ∀ u, 0 ≤ u → u < vn → m54 u ≤ 300) (hJ : m69 v = m77 v ∧ m54 v ≤ m70 v)
    (f1 : ∀ u, u ≠ v → n54 u = m54 u) (f2 : ∀ z, (z < 301 * v ∨ 301 * v + 301 ≤ z) → n55 z = m55 z) (f3 : ∀ u, n77 u = if u = v then m77 v + 1 else m77 u) : RlG r9 c10 sz vn tk e sb sent cm n54 n55 m69 m70 n77 m59 m60 m61 m62 m63 m64 m65 := by
  obtain ⟨pi, nm, g1, g2, g3, g4, g5, g6, g7⟩ := h
  refine ⟨pi, nm, g1, g2, g3, g4, g5, fun i a b => ?_, g7⟩
  obtain ⟨k1, k2, k3, k4, k5, k6, k7, k8, k9, k10, k11⟩ := g6 i a b
  refine ⟨k1, k2, k3, k4, k5, k6, k7, k8, k9, k10, fun q => ?_⟩
  obtain ⟨x1, x2, x3, x4, x5⟩ := k11 q
  rw [f3]
  by_cases z : c10 (pi i) 1 = v
  · rw [if_pos z]
    rw [z] at x2 x4 x5 ⊢
    refine ⟨x1, by omega, x3, fun y => by omega, fun y1 y2 => ?_⟩
    have := (x4 (by omega)).1
    omega
  · rw [if_neg z, f1 _ z]
    refine ⟨x1, x2, x3, fun y => ?_, x5⟩
    have := x4 y
    have b' := hb _ k2 k3
    rw [f2 _ (by omega)]
    exact this
theorem Rl.give {f a s l e v : Int} {c m c' m' : zI} {r r' : zR} (h : Rl f a s l e c r m) (hv : 0 ≤ v ∧ v < m 37 0 10) (hid : m 74 0 v = 1) (hg : m 37 0 20 < m 37 0 19) (rq : rqE r r') (cq : cqE v c c') (mq : mqE v m m') {N : Nat} (hN : N ≤ 300) (g52 : m' 52 0 v = m 37 0 61) (g53 : m' 53 0 v = m 37 0 61 + N) {p : Int} (hp : p % 3 = 2) (hp3 : p / 3 = m 42 0 v) (pr : PR v (m 37 0 61) (m 37 0 5 * m 37 0 6) N p c' m') (g51 : m' 51 0 (301 * v) = m 42 0 v) (g3 : c' 25 v 2 = m 42 0 v) : Rl f a s l e (gvC c' v (m 37 0 20) (m 37 0 61)) r' (gvM m' v) := by
  obtain ⟨h1, h2, h3, h4, h5, h6, h7, h8, h9, h10, h11, h12, h13, h14⟩ := h
  have kc : ∀ q, q ≠ 19 → q ≠ 20 → q ≠ 21 → q ≠ 22 → q ≠ 23 → q ≠ 25 → q ≠ 26 → q ≠ 27 → q ≠ 28 → c' q = c q := cq.1
  have km : ∀ z, z ≠ 51 → z ≠ 52 → z ≠ 53 → z ≠ 54 → z ≠ 55 → z ≠ 56 → z ≠ 57 → z ≠ 58 → m' z = m z := mq.1
  have k37 := km 37 (by decide) (by decide) (by decide) (by decide) (by decide) (by decide) (by decide) (by decide)
  have k77 := km 77 (by decide) (by decide) (by decide) (by decide) (by decide) (by decide) (by decide) (by decide)
  have hm77 := h14.2 v hv.1 hv.2
  have hJ := hm77.2 hid
  have hb : ∀ u, 0 ≤ u → u < m 37 0 10 → m 54 0 u ≤ 300 := fun u x y => (h11 u x y).2.2.2.1
  have ta60 := h7.2.2.2.2.2.2.2.1
  have tk0 : 0 ≤ m 37 0 61 ∧ m 37 0 61 ≤ 600 := ⟨h4.2.1, h4.2.2.1⟩
  have vn6 : m 37 0 10 ≤ 6 := by
    obtain ⟨jm, -, -, -, q⟩ := h8
    exact q.2.2.2.2.2.2.2.2.2.2.2.1
  have v71 := (h9 v hv.1 (by omega)).2.2.2.2.1
  unfold Rl
  simp only [gvM_k m' v (q := 38) (by decide) (by decide) (by decide) (by decide) (by decide) (by decide) (by decide), km 38 (by decide) (by decide) (by decide) (by decide) (by decide) (by decide) (by decide) (by decide), gvM_k m' v (q := 39) (by decide) (by decide) (by decide) (by decide) (by decide) (by decide) (by decide), km 39 (by decide) (by decide) (by decide) (by decide) (by decide) (by decide) (by decide) (by decide), gvM_k m' v (q := 40) (by decide) (by decide) (by decide) (by decide) (by decide) (by decide) (by decide), km 40 (by decide) (by decide) (by decide) (by decide) (by decide) (by decide) (by decide) (by decide), gvM_k m' v (q := 41) (by decide) (by decide) (by decide) (by decide) (by decide) (by decide) (by decide), km 41 (by decide) (by decide) (by decide) (by decide) (by decide) (by decide) (by decide) (by decide), gvM_k m' v (q := 42) (by decide) (by decide) (by decide) (by decide) (by decide) (by decide) (by decide), km 42 (by decide) (by decide) (by decide) (by decide) (by decide) (by decide) (by decide) (by decide), gvM_k m' v (q := 45) (by decide) (by decide) (by decide) (by decide) (by decide) (by decide) (by decide), km 45 (by decide) (by decide) (by decide) (by decide) (by decide) (by decide) (by decide) (by decide), gvM_k m' v (q := 46) (by decide) (by decide) (by decide) (by decide) (by decide) (by decide) (by decide), km 46 (by decide) (by decide) (by decide) (by decide) (by decide) (by decide) (by decide) (by decide), gvM_k m' v (q := 47) (by decide) (by decide) (by decide) (by decide) (by decide) (by decide) (by decide), km 47 (by decide) (by decide) (by decide) (by decide) (by decide) (by decide) (by decide) (by decide), gvM_k m' v (q := 50) (by decide) (by decide) (by decide) (by decide) (by decide) (by decide) (by decide), km 50 (by decide) (by decide) (by decide) (by decide) (by decide) (by decide) (by decide) (by decide), gvM_k m' v (q := 59) (by decide) (by decide) (by decide) (by decide) (by decide) (by decide) (by decide), km 59 (by decide) (by decide) (by decide) (by decide) (by decide) (by decide) (by decide) (by decide), gvM_k m' v (q := 60) (by decide) (by decide) (by decide) (by decide) (by decide) (by decide) (by decide), km 60 (by decide) (by decide) (by decide) (by decide) (by decide) (by decide) (by decide) (by decide), gvM_k m' v (q := 61) (by decide) (by decide) (by decide) (by decide) (by decide) (by decide) (by decide), km 61 (by decide) (by decide) (by decide) (by decide) (by decide) (by decide) (by decide) (by decide), gvM_k m' v (q := 62) (by decide) (by decide) (by decide) (by decide) (by decide) (by decide) (by decide), km 62 (by decide) (by decide) (by decide) (by decide) (by decide) (by decide) (by decide) (by decide), gvM_k m' v (q := 63) (by decide) (by decide) (by decide) (by decide) (by decide) (by decide) (by decide), km 63 (by decide) (by decide) (by decide) (by decide) (by decide) (by decide) (by decide) (by decide), gvM_k m' v (q := 64) (by decide) (by decide) (by decide) (by decide) (by decide) (by decide) (by decide), km 64 (by decide) (by decide) (by decide) (by decide) (by decide) (by decide) (by decide) (by decide), gvM_k m' v (q := 65) (by decide) (by decide) (by decide) (by decide) (by decide) (by decide) (by decide), km 65 (by decide) (by decide) (by decide) (by decide) (by decide) (by decide) (by decide) (by decide), gvM_k m' v (q := 67) (by decide) (by decide) (by decide) (by decide) (by decide) (by decide) (by decide), km 67 (by decide) (by decide) (by decide) (by decide) (by decide) (by decide) (by decide) (by decide), gvM_k m' v (q := 68) (by decide) (by decide) (by decide) (by decide) (by decide) (by decide) (by decide), km 68 (by decide) (by decide) (by decide) (by decide) (by decide) (by decide) (by decide) (by decide), gvM_k m' v (q := 69) (by decide) (by decide) (by decide) (by decide) (by decide) (by decide) (by decide), km 69 (by decide) (by decide) (by decide) (by decide) (by decide) (by decide) (by decide) (by decide), gvM_k m' v (q := 70) (by decide) (by decide) (by decide) (by decide) (by decide) (by decide) (by decide), km 70 (by decide) (by decide) (by decide) (by decide) (by decide) (by decide) (by decide) (by decide), gvM_k m' v (q := 71) (by decide) (by decide) (by decide) (by decide) (by decide) (by decide) (by decide), km 71 (by decide) (by decide) (by decide) (by decide) (by decide) (by decide) (by decide) (by decide), gvM_k m' v (q := 72) (by decide) (by decide) (by decide) (by decide) (by decide) (by decide) (by decide), km 72 (by decide) (by decide) (by decide) (by decide) (by decide) (by decide) (by decide) (by decide), gvM_k m' v (q := 73) (by decide) (by decide) (by decide) (by decide) (by decide) (by decide) (by decide), km 73 (by decide) (by decide) (by decide) (by decide) (by decide) (by decide) (by decide) (by decide), gvM_k m' v (q := 75) (by decide) (by decide) (by decide) (by decide) (by decide) (by decide) (by decide), km 75 (by decide) (by decide) (by decide) (by decide) (by decide) (by decide) (by decide) (by decide), gvM_k m' v (q := 76) (by decide) (by decide) (by decide) (by decide) (by decide) (by decide) (by decide), km 76 (by decide) (by decide) (by decide) (by decide) (by decide) (by decide) (by decide) (by decide), gvM_k m' v (q := 80) (by decide) (by decide) (by decide) (by decide) (by decide) (by decide) (by decide), km 80 (by decide) (by decide) (by decide) (by decide) (by decide) (by decide) (by decide) (by decide),
    gvM_k m' v (q := 51) (by decide) (by decide) (by decide) (by decide) (by decide) (by decide) (by decide), gvM_k m' v (q := 52) (by decide) (by decide) (by decide) (by decide) (by decide) (by decide) (by decide), gvM_k m' v (q := 53) (by decide) (by decide) (by decide) (by decide) (by decide) (by decide) (by decide), gvM_k m' v (q := 54) (by decide) (by decide) (by decide) (by decide) (by decide) (by decide) (by decide), gvM_k m' v (q := 55) (by decide) (by decide) (by decide) (by decide) (by decide) (by decide) (by decide), gvM_k m' v (q := 56) (by decide) (by decide) (by decide) (by decide) (by decide) (by decide) (by decide),
    gvC_k c' v (m 37 0 20) (m 37 0 61) (q := 1) (by decide) (by decide) (by decide) (by decide), kc 1 (by decide) (by decide) (by decide) (by decide) (by decide) (by decide) (by decide) (by decide) (by decide), gvC_k c' v (m 37 0 20) (m 37 0 61) (q := 2) (by decide) (by decide) (by decide) (by decide), kc 2 (by decide) (by decide) (by decide) (by decide) (by decide) (by decide) (by decide) (by decide) (by decide), gvC_k c' v (m 37 0 20) (m 37 0 61) (q := 3) (by decide) (by decide) (by decide) (by decide), kc 3 (by decide) (by decide) (by decide) (by decide) (by decide) (by decide) (by decide) (by decide) (by decide), gvC_k c' v (m 37 0 20) (m 37 0 61) (q := 7) (by decide) (by decide) (by decide) (by decide), kc 7 (by decide) (by decide) (by decide) (by decide) (by decide) (by decide) (by decide) (by decide) (by decide), gvC_k c' v (m 37 0 20) (m 37 0 61) (q := 8) (by decide) (by decide) (by decide) (by decide), kc 8 (by decide) (by decide) (by decide) (by decide) (by decide) (by decide) (by decide) (by decide) (by decide), gvC_k c' v (m 37 0 20) (m 37 0 61) (q := 10) (by decide) (by decide) (by decide) (by decide), kc 10 (by decide) (by decide) (by decide) (by decide) (by decide) (by decide) (by decide) (by decide) (by decide), gvC_k c' v (m 37 0 20) (m 37 0 61) (q := 12) (by decide) (by decide) (by decide) (by decide), kc 12 (by decide) (by decide) (by decide) (by decide) (by decide) (by decide) (by decide) (by decide) (by decide), gvC_k c' v (m 37 0 20) (m 37 0 61) (q := 13) (by decide) (by decide) (by decide) (by decide), kc 13 (by decide) (by decide) (by decide) (by decide) (by decide) (by decide) (by decide) (by decide) (by decide), gvC_k c' v (m 37 0 20) (m 37 0 61) (q := 16) (by decide) (by decide) (by decide) (by decide), kc 16 (by decide) (by decide) (by decide) (by decide) (by decide) (by decide) (by decide) (by decide) (by decide), gvC_k c' v (m 37 0 20) (m 37 0 61) (q := 17) (by decide) (by decide) (by decide) (by decide), kc 17 (by decide) (by decide) (by decide) (by decide) (by decide) (by decide) (by decide) (by decide) (by decide), gvC_k c' v (m 37 0 20) (m 37 0 61) (q := 30) (by decide) (by decide) (by decide) (by decide), kc 30 (by decide) (by decide) (by decide) (by decide) (by decide) (by decide) (by decide) (by decide) (by decide), gvC_k c' v (m 37 0 20) (m 37 0 61) (q := 31) (by decide) (by decide) (by decide) (by decide), kc 31 (by decide) (by decide) (by decide) (by decide) (by decide) (by decide) (by decide) (by decide) (by decide), gvC_k c' v (m 37 0 20) (m 37 0 61) (q := 32) (by decide) (by decide) (by decide) (by decide), kc 32 (by decide) (by decide) (by decide) (by decide) (by decide) (by decide) (by decide) (by decide) (by decide), gvC_k c' v (m 37 0 20) (m 37 0 61) (q := 33) (by decide) (by decide) (by decide) (by decide), kc 33 (by decide) (by decide) (by decide) (by decide) (by decide) (by decide) (by decide) (by decide) (by decide), gvC_k c' v (m 37 0 20) (m 37 0 61) (q := 34) (by decide) (by decide) (by decide) (by decide), kc 34 (by decide) (by decide) (by decide) (by decide) (by decide) (by decide) (by decide) (by decide) (by decide), gvC_k c' v (m 37 0 20) (m 37 0 61) (q := 35) (by decide) (by decide) (by decide) (by decide), kc 35 (by decide) (by decide) (by decide) (by decide) (by decide) (by decide) (by decide) (by decide) (by decide), gvC_k c' v (m 37 0 20) (m 37 0 61) (q := 36) (by decide) (by decide) (by decide) (by decide), kc 36 (by decide) (by decide) (by decide) (by decide) (by decide) (by decide) (by decide) (by decide) (by decide),
    gvC_k c' v (m 37 0 20) (m 37 0 61) (q := 25) (by decide) (by decide) (by decide) (by decide), gvC_k c' v (m 37 0 20) (m 37 0 61) (q := 26) (by decide) (by decide) (by decide) (by decide), gvC_k c' v (m 37 0 20) (m 37 0 61) (q := 27) (by decide) (by decide) (by decide) (by decide), gvC_k c' v (m 37 0 20) (m 37 0 61) (q := 28) (by decide) (by decide) (by decide) (by decide),
    gvC_11, gvM_37, kc 11 (by decide) (by decide) (by decide) (by decide) (by decide) (by decide) (by decide) (by decide) (by decide), kc 14 (by decide) (by decide) (by decide) (by decide) (by decide) (by decide) (by decide) (by decide) (by decide), kc 15 (by decide) (by decide) (by decide) (by decide) (by decide) (by decide) (by decide) (by decide) (by decide), kc 24 (by decide) (by decide) (by decide) (by decide) (by decide) (by decide) (by decide) (by decide) (by decide), k37, rq.2.1 1 (by decide), rq.2.1 9 (by decide)]
  refine ⟨rq.1, ?_, rq.2.2, h4, h5, h6, ?_, h8, h9, ?_, ?_, ?_, ?_, ⟨?_, ?_⟩, ?_⟩
  · unfold RSm at h2 ⊢
    simp only [rq.2.1 37 (by decide)]
    exact h2
  · obtain ⟨k1, k2, k3, k4, k5, k6, k7, k8, k9⟩ := h7
    refine ⟨?_, ?_, ?_, k4, k5, ?_, ?_, k8, fun i a b => ?_⟩
    · show gvC c' v (m 37 0 20) (m 37 0 61) 11 0 5 = m 37 0 19
      rw [gvC_11, if_neg (by decide), kc 11 (by decide) (by decide) (by decide) (by decide) (by decide) (by decide) (by decide) (by decide) (by decide)]; exact k1
    · show gvC c' v (m 37 0 20) (m 37 0 61) 11 0 6 = m 37 0 20 + 1
      rw [gvC_11, if_pos rfl, kc 11 (by decide) (by decide) (by decide) (by decide) (by decide) (by decide) (by decide) (by decide) (by decide), k2]
    · show gvC c' v (m 37 0 20) (m 37 0 61) 11 0 7 = m 37 0 21
      rw [gvC_11, if_neg (by decide), kc 11 (by decide) (by decide) (by decide) (by decide) (by decide) (by decide) (by decide) (by decide) (by decide)]; exact k3
    · show 0 ≤ m 37 0 20 + 1
      omega
    · show m 37 0 20 + 1 ≤ m 37 0 19
      omega
    · obtain ⟨q1, q2, q3, q4, q5, q6⟩ := k9 i a b
      refine ⟨q1, q2, ?_, ?_, q5, q6⟩
      · rw [gvC_14, gvM_48, kc 14 (by decide) (by decide) (by decide) (by decide) (by decide) (by decide) (by decide) (by decide) (by decide), km 48 (by decide) (by decide) (by decide) (by decide) (by decide) (by decide) (by decide) (by decide), k37, q3]
      · rw [gvC_15, gvM_49, kc 15 (by decide) (by decide) (by decide) (by decide) (by decide) (by decide) (by decide) (by decide) (by decide), km 49 (by decide) (by decide) (by decide) (by decide) (by decide) (by decide) (by decide) (by decide), k37, q4]
  · intro u x y
    obtain ⟨w1, w2, w3, w4, w5, w6, w7, w8, w9, w10⟩ := h10 u x y
    rw [gvC_24, gvC_24, gvC_24, gvC_24, gvC_24, gvC_24, gvM_74, gvM_77, gvM_78, gvM_79, kc 24 (by decide) (by decide) (by decide) (by decide) (by decide) (by decide) (by decide) (by decide) (by decide), km 74 (by decide) (by decide) (by decide) (by decide) (by decide) (by decide) (by decide) (by decide), km 78 (by decide) (by decide) (by decide) (by decide) (by decide) (by decide) (by decide) (by decide), km 79 (by decide) (by decide) (by decide) (by decide) (by decide) (by decide) (by decide) (by decide), k77, k37]
    by_cases q : u = v
    · subst q
      simp only [if_true]
      refine ⟨?_, rfl, w3, w4, trivial, w6, w7, w8, Or.inr ⟨trivial, h7.2.2.2.2.2.1, hg⟩, fun z => ?_⟩
      · show c 24 u 1 + 1 = m 77 0 u + 1
        rw [w1]
      · have z' : m 37 0 10 ≤ u := z
        omega
    · simp only [q, if_false]
      exact ⟨w1, w2, w3, w4, w5, w6, w7, w8, w9, w10⟩
  · exact h11.give hv tk0 (fun u q => cq.2 25 u (by decide) q) (fun u q => cq.2 26 u (by decide) q) (fun u q => by funext i; unfold aC; rw [cq.2 25 u (by decide) q, cq.2 26 u (by decide) q, cq.2 28 u (by decide) q]) (fun u q => cq.2 28 u (by decide) q) mq.2.1 mq.2.2 (fun u => by rw [gvM_77, k77]) (by omega) (N := N) (by omega) g52 g53 g51 g3 hp (pr.ac (by rw [g3, hp3]) tk0.1)
  · exact h12.give hb v71 hJ (fun u q => cq.2 25 u (by decide) q) (fun u q => (mq.2.1 u q).2.2) (fun z q => (mq.2.2 z q).2.1) (fun u => by rw [gvM_77, k77]) (fun u => by rw [gvM_79, km 79 (by decide) (by decide) (by decide) (by decide) (by decide) (by decide) (by decide) (by decide)]) pr.2.2.2.1
  · exact h13.give hb hJ (fun u q => (mq.2.1 u q).2.2) (fun z q => (mq.2.2 z q).2.1) (fun u => by rw [gvM_77, k77])
  · show c 17 0 3 ≤ m 37 0 20 + 1
    have := h14.1.1
    omega
  · intro z
    have z' : c 17 0 3 = m 37 0 20 + 1 := z
    have := h14.1.1
    omega
  · intro u x y
    rw [gvM_74, gvM_77, k77, km 74 (by decide) (by decide) (by decide) (by decide) (by decide) (by decide) (by decide) (by decide)]
    have hu := h14.2 u x y
    show (if u = v then m 77 0 v + 1 else m 77 0 u) ≤ m 37 0 20 + 1 ∧ ((if u = v then 0 else m 74 0 u) = 1 → m 69 0 u = (if u = v then m 77 0 v + 1 else m 77 0 u) ∧ m' 54 0 u ≤ m 70 0 u)
    by_cases q : u = v
    · rw [if_pos q, if_pos q]
      exact ⟨by omega, fun z => absurd z (by decide)⟩
    · rw [if_neg q, if_neg q, (mq.2.1 u q).2.2]
      exact ⟨by omega, hu.2⟩
