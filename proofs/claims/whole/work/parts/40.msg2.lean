theorem RlVm.at {c36 c36' : Int → Int → Int} {vn tk : Int} {m66 m67 m69 m70 m71 m72 m73 m66' m67' m69' m70' m71' m72' m73' : Int → Int} (h : RlVm c36 vn tk m66 m67 m69 m70 m71 m72 m73) (v : Int) (hc : ∀ u, u ≠ v → c36' u = c36 u)
    (hm : ∀ u, u ≠ v → m66' u = m66 u ∧ m67' u = m67 u ∧ m69' u = m69 u ∧ m70' u = m70 u ∧ m71' u = m71 u ∧ m72' u = m72 u ∧ m73' u = m73 u)
    (hv : c36' v 0 = m67' v ∧ c36' v 1 = m69' v ∧ c36' v 2 = m70' v ∧ c36' v 3 = m71' v ∧ (m71' v = 0 ∨ m71' v = 1) ∧ (m71' v = 1 → c36' v 4 = m72' v) ∧ 0 ≤ c36' v 5 ∧ c36' v 5 ≤ tk + 1 ∧ (v < vn → ((m66' v = 0 ∧ c36' v 5 = m73' v + 1) ∨ (m66' v = 1 ∧ c36' v 5 = 0)) ∧ 0 ≤ m73' v ∧ m73' v ≤ tk)) :
    RlVm c36' vn tk m66' m67' m69' m70' m71' m72' m73' := by
  intro u a b
  by_cases hu : u = v
  · subst hu; exact hv
  · obtain ⟨e1, e2, e3, e4, e5, e6, e7⟩ := hm u hu
    rw [hc u hu, e1, e2, e3, e4, e5, e6, e7]
    exact h u a b
theorem RlI.at {c25 : Int → Int → Int} {vn : Int} {m54 m55 m68 m69 m70 m71 m72 m75 m76 m77 m79 m68' m69' m70' m71' m72' m75' m76' : Int → Int} (h : RlI c25 vn m54 m55 m68 m69 m70 m71 m72 m75 m76 m77 m79) (v : Int)
    (hm : ∀ u, u ≠ v → m68' u = m68 u ∧ m69' u = m69 u ∧ m70' u = m70 u ∧ m71' u = m71 u ∧ m72' u = m72 u ∧ m75' u = m75 u ∧ m76' u = m76 u)
    (hv : (m69' v = m77 v ∨ m69' v = m77 v - 1) ∧ 0 ≤ m69' v ∧ 0 ≤ m70' v ∧ m70' v ≤ 300 ∧
    (m69' v = m77 v → m70' v ≤ m54 v ∧ (m71' v = 1 → m70' v + 1 ≤ m54 v ∧ m72' v = m55 (301 * v + m70' v + 1)) ∧ m68' v = (if m54 v ≤ m70' v ∨ m70' v < c25 v 6 then 0 else if m70' v < c25 v 7 then 1 else 2)) ∧
    (m69' v ≠ m77 v → m71' v = 0 ∧ m68' v = 0) ∧
    0 ≤ m75' v ∧ 0 ≤ m76' v ∧ (m75' v < m69' v ∨ (m75' v = m69' v ∧ m76' v ≤ m70' v)) ∧ 0 ≤ m79 v ∧ m79 v ≤ m54 v) :
    RlI c25 vn m54 m55 m68' m69' m70' m71' m72' m75' m76' m77 m79 := by
  intro u a b
  by_cases hu : u = v
  · subst hu; exact hv
  · obtain ⟨e1, e2, e3, e4, e5, e6, e7⟩ := hm u hu
    rw [e1, e2, e3, e4, e5, e6, e7]
    exact h u a b
theorem RlGm.prog {i : Int} {pi nm : Int → Int} {r9 : Int → Option (Nat × Int)} {c10 : Int → Int → Int} {sz vn tk sent cm : Int} {m54 m55 m69 m70 m77 m59 m60 m61 m62 m63 m64 m65 m69' m70' : Int → Int} (h : RlGm i pi nm r9 c10 sz vn tk sent cm m54 m55 m69 m70 m77 m59 m60 m61 m62 m63 m64 m65)
    (hp : ∀ u, 0 ≤ u → u < vn → (m69' u = m69 u ∧ m70 u ≤ m70' u) ∨ (m69' u = m77 u ∧ m69 u < m69' u)) : RlGm i pi nm r9 c10 sz vn tk sent cm m54 m55 m69' m70' m77 m59 m60 m61 m62 m63 m64 m65 := by
  obtain ⟨g1, g2, g3, g4, g5, g6, g7⟩ := h
  refine ⟨g1, g2, g3, g4, g5, fun i a b => ?_, g7⟩
  obtain ⟨k1, k2, k3, k4, k5, k6, k7, k8, k9, k10, k11⟩ := g6 i a b
  have hq := hp _ k2 k3
  refine ⟨k1, k2, k3, k4, k5, k6, by omega, k8, k9, fun q => ?_, fun q => ?_⟩
  · obtain ⟨x1, x2, x3⟩ := k10 q
    exact ⟨x1, x2, by omega⟩
  · obtain ⟨x1, x2, x3, x4, x5⟩ := k11 q
    exact ⟨x1, x2, x3, x4, fun y1 y2 => by
      rcases hq with ⟨z1, z2⟩ | ⟨z1, z2⟩
      · have := x5 y1 (by omega); omega
      · exact absurd (y2.trans z1) y1⟩
theorem smI_pt {f g : Int → Int} {i : Int} (h : ∀ j, j ≠ i → g j = f j) (hi : g i = f i - 1) : ∀ n : Nat, (i < n → 0 ≤ i → smI g n = smI f n - 1) ∧ ((n : Int) ≤ i → smI g n = smI f n) := by
  intro n
  induction n with
  | zero => exact ⟨fun a b => by omega, fun _ => rfl⟩
  | succ n ih =>
    refine ⟨fun a b => ?_, fun a => ?_⟩
    · show smI g n + g n = smI f n + f n - 1
      by_cases e : i = (n : Int)
      · rw [ih.2 (by omega), ← e, hi]; omega
      · rw [ih.1 (by omega) b, h n (by omega)]; omega
    · show smI g n + g n = smI f n + f n
      rw [ih.2 (by omega), h n (by omega)]
theorem RlGm.skip {i : Int} {pi nm : Int → Int} {r9 : Int → Option (Nat × Int)} {c10 : Int → Int → Int} {sz vn tk sent cm : Int} {m54 m55 m69 m70 m77 m59 m60 m61 m62 m63 m64 m65 : Int → Int} (h : RlGm i pi nm r9 c10 sz vn tk sent cm m54 m55 m69 m70 m77 m59 m60 m61 m62 m63 m64 m65)
    (hd : c10 (pi i) 5 ≠ tk) : RlGm (i + 1) pi nm r9 c10 sz vn tk sent cm m54 m55 m69 m70 m77 m59 m60 m61 m62 m63 m64 m65 := by
  have e : ∀ j, (j < i + 1 ∧ c10 (pi j) 5 = tk) ↔ (j < i ∧ c10 (pi j) 5 = tk) := by
    intro j
    constructor
    · intro q
      refine ⟨?_, q.2⟩
      by_cases z : j = i
      · rw [z] at q; exact absurd q.2 hd
      · omega
    · intro q; exact ⟨by omega, q.2⟩
  obtain ⟨g1, g2, g3, g4, g5, g6, g7, g8, g9, g10, g11, g12⟩ := h
  refine ⟨g1, g2, g3, g4, g5, g6, ?_, g8, g9, fun k a b => ?_, fun j x a b c d q => ?_, g12⟩
  · rw [g7]
    refine smI_cong _ (fun j _ _ => ?_)
    simp only [e j]
  · obtain ⟨j, x, u1, u2, u3, u4, u5, u6⟩ := g10 k a b
    exact ⟨j, x, u1, u2, u3, u4, fun q => u5 ⟨((e j).mp ⟨q.1, q.2.1⟩).1, q.2⟩, u6⟩
  · exact g11 j x a b c d (fun z => q ⟨((e j).mpr ⟨z.1, z.2.1⟩).1, z.2⟩)
theorem RlGm.take {i : Int} {pi nm : Int → Int} {r9 : Int → Option (Nat × Int)} {c10 : Int → Int → Int} {sz vn tk sent cm : Int} {m54 m55 m69 m70 m77 m59 m60 m61 m62 m63 m64 m65 n59 n60 n61 n62 n63 n64 n65 : Int → Int} (h : RlGm i pi nm r9 c10 sz vn tk sent cm m54 m55 m69 m70 m77 m59 m60 m61 m62 m63 m64 m65)
    (hi : 0 ≤ i ∧ i < sz) (hd : c10 (pi i) 5 = tk) {k : Int} (hk : 0 ≤ k ∧ k < cm) (k1 : m59 k = tk) (k2 : m60 k = nm i)
    (e59 : ∀ j, n59 j = m59 (if j = k then cm - 1 else j)) (e60 : ∀ j, n60 j = m60 (if j = k then cm - 1 else j)) (e61 : ∀ j, n61 j = m61 (if j = k then cm - 1 else j)) (e62 : ∀ j, n62 j = m62 (if j = k then cm - 1 else j)) (e63 : ∀ j, n63 j = m63 (if j = k then cm - 1 else j)) (e64 : ∀ j, n64 j = m64 (if j = k then cm - 1 else j)) (e65 : ∀ j, n65 j = m65 (if j = k then cm - 1 else j)) :
    RlGm (i + 1) pi nm r9 c10 sz vn tk sent (cm - 1) m54 m55 m69 m70 m77 n59 n60 n61 n62 n63 n64 n65 := by
  obtain ⟨g1, g2, g3, g4, g5, g6, g7, g8, g9, g10, g11, g12⟩ := h
  have inj : ∀ a b, 0 ≤ a → a < cm → 0 ≤ b → b < cm → a ≠ b → m59 a ≠ m59 b ∨ m60 a ≠ m60 b := by
    intro a b a0 a1 b0 b1 hne
    by_cases q : a < b
    · exact g12 a b a0 q b1
    · rcases g12 b a b0 (by omega) a1 with z | z
      · exact Or.inl (fun y => z y.symm)
      · exact Or.inr (fun y => z y.symm)
  have src : ∀ j, 0 ≤ j → j < cm - 1 → ∃ s, (if j = k then cm - 1 else j) = s ∧ 0 ≤ s ∧ s < cm ∧ s ≠ k := by
    intro j a b
    refine ⟨_, rfl, ?_⟩
    split <;> omega
  refine ⟨g1, g2, g3, g4, g5, g6, ?_, by omega, by omega, fun j a b => ?_, fun j x a b c d q => ?_, fun j j' a b c => ?_⟩
  · rw [g7]
    refine ((smI_pt (i := i) (fun j hj => ?_) ?_ sz.toNat).1 (by omega) hi.1).symm
    · have : (j < i + 1 ∧ c10 (pi j) 5 = tk) ↔ (j < i ∧ c10 (pi j) 5 = tk) := ⟨fun q => ⟨by omega, q.2⟩, fun q => ⟨by omega, q.2⟩⟩
      simp only [this]
    · rw [if_pos ⟨by omega, hd⟩, if_neg (by omega)]
      omega
  · obtain ⟨s, es, s0, s1, s2⟩ := src j a b
    rw [e59, e60, e61, e62, e63, e64, e65, es]
    obtain ⟨j', x, u1, u2, u3, u4, u5, u6, u7, u8⟩ := g10 s s0 s1
    refine ⟨j', x, u1, u2, u3, u4, fun z => ?_, u6, u7, u8⟩
    by_cases e : j' = i
    · subst e
      rcases inj s k s0 s1 hk.1 hk.2 s2 with y | y
      · apply y; rw [u6, k1]; omega
      · exact y (u7.trans k2.symm)
    · exact u5 ⟨by omega, z.2⟩
  · obtain ⟨k0, v1, v2, v3, v4⟩ := g11 j x a b c d (fun z => q ⟨by omega, z.2⟩)
    have hne : k0 ≠ k := by
      intro e
      rw [e, k2] at v4
      rw [e, k1] at v3
      have ej : j = i := by
        by_cases z1 : j < i
        · have := g5 j i a z1 hi.2; omega
        · by_cases z2 : i < j
          · have := g5 i j hi.1 z2 b; omega
          · omega
      subst ej
      exact q ⟨by omega, hd, by omega⟩
    by_cases e : k0 = cm - 1
    · refine ⟨k, hk.1, by omega, ?_, ?_⟩
      · rw [e59, if_pos rfl, ← e]; exact v3
      · rw [e60, if_pos rfl, ← e]; exact v4
    · refine ⟨k0, v1, by omega, ?_, ?_⟩
      · rw [e59, if_neg hne]; exact v3
      · rw [e60, if_neg hne]; exact v4
  · rw [e59, e59, e60, e60]
    refine inj _ _ ?_ ?_ ?_ ?_ ?_ <;> (repeat' split) <;> omega
def mRm (m : zI) (k : Int) : zI := zup (zup (zup (zup (zup (zup (zup (zup m 37 0 37 ((m 37 0 37) - 1)) 59 0 k (m 59 0 ((m 37 0 37) - 1))) 60 0 k (m 60 0 ((m 37 0 37) - 1))) 61 0 k (m 61 0 ((m 37 0 37) - 1))) 62 0 k (m 62 0 ((m 37 0 37) - 1))) 63 0 k (m 63 0 ((m 37 0 37) - 1))) 64 0 k (m 64 0 ((m 37 0 37) - 1))) 65 0 k (m 65 0 ((m 37 0 37) - 1))
theorem zup_src (m : zI) (q : Nat) (k s j : Int) : zup m q 0 k (m q 0 s) q 0 j = m q 0 (if j = k then s else j) := by
  rw [zup_at]
  split <;> rfl
theorem Mid.take {i : Int} {pi nm : Int → Int} {c m : zI} {r : zR} (h : Mid i pi nm c r m) (hi : 0 ≤ i ∧ i < c 7 0 3) (hd : c 10 (pi i) 5 = m 37 0 61) {k : Int} (hk : 0 ≤ k ∧ k < m 37 0 37) (k1 : m 59 0 k = m 37 0 61) (k2 : m 60 0 k = nm i) : Mid (i + 1) pi nm c r (mRm m k) := by
  obtain ⟨h1, h2, h3, h4, h5, h6, h7, h8, h9, h10, h11, h12, h13, h14⟩ := h
  refine ⟨h1, h2, h3, h4, h5, h6, h7, h8, h9, h10, h11, h12, ?_, h14⟩
  refine h13.take hi hd hk k1 k2 ?_ ?_ ?_ ?_ ?_ ?_ ?_
  · exact fun j => zup_src m 59 k (m 37 0 37 - 1) j
  · exact fun j => zup_src m 60 k (m 37 0 37 - 1) j
  · exact fun j => zup_src m 61 k (m 37 0 37 - 1) j
  · exact fun j => zup_src m 62 k (m 37 0 37 - 1) j
  · exact fun j => zup_src m 63 k (m 37 0 37 - 1) j
  · exact fun j => zup_src m 64 k (m 37 0 37 - 1) j
  · exact fun j => zup_src m 65 k (m 37 0 37 - 1) j
theorem Mid.skip {i : Int} {pi nm : Int → Int} {c m : zI} {r : zR} (h : Mid i pi nm c r m) (hd : c 10 (pi i) 5 ≠ m 37 0 61) : Mid (i + 1) pi nm c r m := by
  obtain ⟨h1, h2, h3, h4, h5, h6, h7, h8, h9, h10, h11, h12, h13, h14⟩ := h
  exact ⟨h1, h2, h3, h4, h5, h6, h7, h8, h9, h10, h11, h12, h13.skip hd, h14⟩
/-- a report is learnt -/
theorem Mid.learn {i : Int} {pi nm : Int → Int} {c m : zI} {r : zR} (h : Mid i pi nm c r m) {v p x : Int} (hv : 0 ≤ v ∧ v < m 37 0 10) (hp : 0 ≤ p ∧ 0 ≤ x ∧ (p < m 69 0 v ∨ (p = m 69 0 v ∧ x ≤ m 70 0 v))) : Mid i pi nm (zup (zup c 24 v 3 p) 24 v 4 x) r (zup (zup m 75 0 v p) 76 0 v x) := by
  obtain ⟨h1, h2, h3, h4, h5, h6, h7, h8, h9, h10, h11, h12, h13, h14⟩ := h
  have hw := h12 v hv.1 hv.2
  refine ⟨h1, h2, h3, h4, h5, h6, h7, h8, h9, ?_, h11, ?_, h13, h14⟩
  · intro u a b
    have hu := h10 u a b
    show zup (zup c 24 v 3 p) 24 v 4 x 24 u 1 = _ ∧ zup (zup c 24 v 3 p) 24 v 4 x 24 u 2 = _ ∧ zup (zup c 24 v 3 p) 24 v 4 x 24 u 3 = zup m 75 0 v p 75 0 u ∧ zup (zup c 24 v 3 p) 24 v 4 x 24 u 4 = zup m 76 0 v x 76 0 u ∧ zup (zup c 24 v 3 p) 24 v 4 x 24 u 5 = _ ∧ zup (zup c 24 v 3 p) 24 v 4 x 24 u 6 = _ ∧ _
    by_cases e : u = v
    · subst e
      simp only [zup_at]
      simp
      exact ⟨hu.1, hu.2.1, hu.2.2.2.2⟩
    · simp only [zup_j _ _ _ _ _ _ e, zup_f _ _ _ _ _ _ e]
      exact hu
  · refine h12.at v (fun u e => by simp [zup, e]) ?_
    show _ ∧ _ ∧ _ ∧ _ ∧ _ ∧ _ ∧ 0 ≤ zup m 75 0 v p 75 0 v ∧ 0 ≤ zup m 76 0 v x 76 0 v ∧ (zup m 75 0 v p 75 0 v < m 69 0 v ∨ (zup m 75 0 v p 75 0 v = m 69 0 v ∧ zup m 76 0 v x 76 0 v ≤ m 70 0 v)) ∧ _
    rw [zup_s, zup_s]
    obtain ⟨w1, w2, w3, w4, w5, w6, w7, w8, w9, w10⟩ := hw
    exact ⟨w1, w2, w3, w4, w5, w6, hp.1, hp.2.1, hp.2.2, w10⟩
/-- a grant is heard, and tells nothing new -/
theorem Mid.hear0 {i : Int} {pi nm : Int → Int} {c m : zI} {r : zR} (h : Mid i pi nm c r m) {v : Int} (hv : 0 ≤ v ∧ v < m 37 0 10) (hv6 : v < 6) : Mid i pi nm (zup c 36 v 5 0) r (zup m 66 0 v 1) := by
  obtain ⟨h1, h2, h3, h4, h5, h6, h7, h8, h9, h10, h11, h12, h13, h14⟩ := h
  obtain ⟨u1, u2, u3, u4, u5, u6, u7, u8, u9⟩ := h9 v hv.1 hv6
  have t0 := h4.2.1
  refine ⟨h1, h2, h3, h4, h5, h6, h7, h8, ?_, h10, h11, h12, h13, h14⟩
  refine h9.at v (fun u e => zup_jf _ _ _ e) (fun u e => by simp [zup, e]) ?_
  simp only [zup_at]
  simp
  show c 36 v 0 = m 67 0 v ∧ c 36 v 1 = m 69 0 v ∧ c 36 v 2 = m 70 0 v ∧ c 36 v 3 = m 71 0 v ∧ (m 71 0 v = 0 ∨ m 71 0 v = 1) ∧ (m 71 0 v = 1 → c 36 v 4 = m 72 0 v) ∧ 0 ≤ m 37 0 61 + 1 ∧ (v < m 37 0 10 → 0 ≤ m 73 0 v ∧ m 73 0 v ≤ m 37 0 61)
  exact ⟨u1, u2, u3, u4, u5, u6, by omega, fun q => (u9 q).2⟩
/-- the next act's grant -/
theorem Mid.hear1 {i : Int} {pi nm : Int → Int} {c m : zI} {r : zR} (h : Mid i pi nm c r m) {v cl : Int} (hv : 0 ≤ v ∧ v < m 37 0 10) (hv6 : v < 6) (hp : m 69 0 v = m 77 0 v ∧ m 70 0 v + 1 ≤ m 54 0 v ∧ cl = m 55 0 (301 * v + m 70 0 v + 1)) : Mid i pi nm (zup (zup (zup c 36 v 5 0) 36 v 3 1) 36 v 4 cl) r (zup (zup (zup m 66 0 v 1) 71 0 v 1) 72 0 v cl) := by
  obtain ⟨h1, h2, h3, h4, h5, h6, h7, h8, h9, h10, h11, h12, h13, h14⟩ := h
  obtain ⟨u1, u2, u3, u4, u5, u6, u7, u8, u9⟩ := h9 v hv.1 hv6
  have hw := h12 v hv.1 hv.2
  have t0 := h4.2.1
  have z66 : zup (zup (zup m 66 0 v 1) 71 0 v 1) 72 0 v cl 66 0 v = 1 := by rw [zup_k _ _ _ _ _ _ (by decide), zup_k _ _ _ _ _ _ (by decide), zup_s]
  have z71 : zup (zup (zup m 66 0 v 1) 71 0 v 1) 72 0 v cl 71 0 v = 1 := by rw [zup_k _ _ _ _ _ _ (by decide), zup_s]
  have z72 : zup (zup (zup m 66 0 v 1) 71 0 v 1) 72 0 v cl 72 0 v = cl := by rw [zup_s]
  refine ⟨h1, h2, h3, h4, h5, h6, h7, h8, ?_, h10, h11, ?_, h13, h14⟩
  · refine h9.at v (fun u e => (zup_jf _ _ _ e).trans ((zup_jf _ _ _ e).trans (zup_jf _ _ _ e))) (fun u e => by simp [zup, e]) ?_
    rw [z66, z71, z72]
    simp only [zup_at]
    simp
    show c 36 v 0 = m 67 0 v ∧ c 36 v 1 = m 69 0 v ∧ c 36 v 2 = m 70 0 v ∧ 0 ≤ m 37 0 61 + 1 ∧ (v < m 37 0 10 → 0 ≤ m 73 0 v ∧ m 73 0 v ≤ m 37 0 61)
    exact ⟨u1, u2, u3, by omega, fun q => (u9 q).2⟩
  · refine h12.at v (fun u e => by simp [zup, e]) ?_
    rw [z71, z72]
    obtain ⟨w1, w2, w3, w4, w5, w6, w7, w8, w9, w10⟩ := hw
    obtain ⟨x1, x2, x3⟩ := w5 hp.1
    exact ⟨w1, w2, w3, w4, fun _ => ⟨x1, fun _ => hp.2, x3⟩, fun q => absurd hp.1 q, w7, w8, w9, w10⟩
/-- the next plan's first grant -/
theorem Mid.hear2 {i : Int} {pi nm : Int → Int} {c m : zI} {r : zR} (h : Mid i pi nm c r m) {v p cl : Int} (hv : 0 ≤ v ∧ v < m 37 0 10) (hv6 : v < 6) (hp : p = m 69 0 v + 1 ∧ p ≤ m 77 0 v ∧ 1 ≤ m 54 0 v ∧ cl = m 55 0 (301 * v + 1)) : Mid i pi nm (zup (zup (zup (zup (zup c 36 v 5 0) 36 v 1 p) 36 v 2 0) 36 v 3 1) 36 v 4 cl) r (zup (zup (zup (zup (zup (zup m 66 0 v 1) 69 0 v p) 70 0 v 0) 68 0 v 0) 71 0 v 1) 72 0 v cl) := by
  obtain ⟨h1, h2, h3, h4, h5, h6, h7, h8, h9, h10, h11, h12, h13, h14⟩ := h
  obtain ⟨u1, u2, u3, u4, u5, u6, u7, u8, u9⟩ := h9 v hv.1 hv6
  have hw := h12 v hv.1 hv.2
  have hr := h11 v hv.1 hv.2
  have t0 := h4.2.1
  have z66 : zup (zup (zup (zup (zup (zup m 66 0 v 1) 69 0 v p) 70 0 v 0) 68 0 v 0) 71 0 v 1) 72 0 v cl 66 0 v = 1 := by rw [zup_k _ _ _ _ _ _ (by decide), zup_k _ _ _ _ _ _ (by decide), zup_k _ _ _ _ _ _ (by decide), zup_k _ _ _ _ _ _ (by decide), zup_k _ _ _ _ _ _ (by decide), zup_s]
  have z69 : zup (zup (zup (zup (zup (zup m 66 0 v 1) 69 0 v p) 70 0 v 0) 68 0 v 0) 71 0 v 1) 72 0 v cl 69 0 v = p := by rw [zup_k _ _ _ _ _ _ (by decide), zup_k _ _ _ _ _ _ (by decide), zup_k _ _ _ _ _ _ (by decide), zup_k _ _ _ _ _ _ (by decide), zup_s]
  have z70 : zup (zup (zup (zup (zup (zup m 66 0 v 1) 69 0 v p) 70 0 v 0) 68 0 v 0) 71 0 v 1) 72 0 v cl 70 0 v = 0 := by rw [zup_k _ _ _ _ _ _ (by decide), zup_k _ _ _ _ _ _ (by decide), zup_k _ _ _ _ _ _ (by decide), zup_s]
  have z68 : zup (zup (zup (zup (zup (zup m 66 0 v 1) 69 0 v p) 70 0 v 0) 68 0 v 0) 71 0 v 1) 72 0 v cl 68 0 v = 0 := by rw [zup_k _ _ _ _ _ _ (by decide), zup_k _ _ _ _ _ _ (by decide), zup_s]
  have z71 : zup (zup (zup (zup (zup (zup m 66 0 v 1) 69 0 v p) 70 0 v 0) 68 0 v 0) 71 0 v 1) 72 0 v cl 71 0 v = 1 := by rw [zup_k _ _ _ _ _ _ (by decide), zup_s]
  have z72 : zup (zup (zup (zup (zup (zup m 66 0 v 1) 69 0 v p) 70 0 v 0) 68 0 v 0) 71 0 v 1) 72 0 v cl 72 0 v = cl := by rw [zup_s]
  obtain ⟨w1, w2, w3, w4, w5, w6, w7, w8, w9, w10⟩ := hw
  have e77 : p = m 77 0 v := by omega
  refine ⟨h1, h2, h3, h4, h5, h6, h7, h8, ?_, h10, h11, ?_, ?_, h14.1, ?_⟩
  · refine h9.at v (fun u e => (zup_jf _ _ _ e).trans ((zup_jf _ _ _ e).trans ((zup_jf _ _ _ e).trans ((zup_jf _ _ _ e).trans (zup_jf _ _ _ e))))) (fun u e => by simp [zup, e]) ?_
    rw [z66, z71, z72, z69, z70]
    simp only [zup_at]
    simp
    show c 36 v 0 = m 67 0 v ∧ 0 ≤ m 37 0 61 + 1 ∧ (v < m 37 0 10 → 0 ≤ m 73 0 v ∧ m 73 0 v ≤ m 37 0 61)
    exact ⟨u1, by omega, fun q => (u9 q).2⟩
  · refine h12.at v (fun u e => by simp [zup, e]) ?_
    rw [z68, z69, z70, z71, z72]
    refine ⟨Or.inl e77, by omega, by omega, by omega, fun _ => ⟨?_, fun _ => ⟨?_, ?_⟩, ?_⟩, fun q => absurd e77 q, w7, w8, ?_, w10⟩
    · show 0 ≤ m 54 0 v
      omega
    · show 0 + 1 ≤ m 54 0 v
      omega
    · show cl = m 55 0 (301 * v + 0 + 1)
      rw [Int.add_zero]; exact hp.2.2.2
    · rw [if_pos]
      refine Or.inr ?_
      show 0 < c 25 v 6
      rcases hr.2.2.2.2.2.2.2.2 with q | q
      · have : m 77 0 v = 0 := q.1
        omega
      · have := q.2.1
        omega
    · show m 75 0 v < p ∨ _
      omega
  · refine h13.prog (fun u a b => ?_)
    show (zup m 69 0 v p 69 0 u = m 69 0 u ∧ m 70 0 u ≤ zup m 70 0 v 0 70 0 u) ∨ (zup m 69 0 v p 69 0 u = m 77 0 u ∧ m 69 0 u < zup m 69 0 v p 69 0 u)
    by_cases e : u = v
    · subst e
      rw [zup_s]
      exact Or.inr ⟨e77, by omega⟩
    · rw [zup_f _ _ _ _ _ _ e, zup_f _ _ _ _ _ _ e]
      exact Or.inl ⟨rfl, Int.le_refl _⟩
  · intro u x y
    have hu := h14.2 u x y
    refine ⟨hu.1, fun z => ?_⟩
    have hz := hu.2 z
    show zup m 69 0 v p 69 0 u = m 77 0 u ∧ m 54 0 u ≤ zup m 70 0 v 0 70 0 u
    by_cases e : u = v
    · subst e
      exfalso
      have := hz.1
      omega
    · rw [zup_f _ _ _ _ _ _ e, zup_f _ _ _ _ _ _ e]
      exact hz
