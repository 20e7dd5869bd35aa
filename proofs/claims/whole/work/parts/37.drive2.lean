def lowE (c c' : zI) : Prop := ∀ k, 37 ≤ k → c' k = c k
def hiE (m m' : zI) : Prop := ∀ k, k < 37 → m' k = m k
theorem lowE.trans {a b c : zI} (h : lowE a b) (h' : lowE b c) : lowE a c := fun k hk => (h' k hk).trans (h k hk)
theorem hiE.trans {a b c : zI} (h : hiE a b) (h' : hiE b c) : hiE a c := fun k hk => (h' k hk).trans (h k hk)
theorem lowE.refl (a : zI) : lowE a a := fun _ _ => rfl
theorem hiE.refl (a : zI) : hiE a a := fun _ _ => rfl
theorem lowE.zup {a b : zI} {k : Nat} {j s x : Int} (h : lowE a b) (hk : k < 37) : lowE a (zup b k j s x) := fun k' hk' => (zup_kf _ _ _ _ (by omega)).trans (h k' hk')
theorem hiE.zup {a b : zI} {k : Nat} {j s x : Int} (h : hiE a b) (hk : 37 ≤ k) : hiE a (zup b k j s x) := fun k' hk' => (zup_kf _ _ _ _ (by omega)).trans (h k' hk')
/-- vehicles get on, messages stay what they are -/
theorem RlG.prog {r9 : Int → Option (Nat × Int)} {c10 : Int → Int → Int} {sz vn tk e sb sb' sent cm : Int} {m54 m55 m69 m70 m77 m59 m60 m61 m62 m63 m64 m65 m69' m70' : Int → Int} (h : RlG r9 c10 sz vn tk e sb sent cm m54 m55 m69 m70 m77 m59 m60 m61 m62 m63 m64 m65) (hs : sb ≤ sb')
    (hp : ∀ u, 0 ≤ u → u < vn → (m69' u = m69 u ∧ m70 u ≤ m70' u) ∨ (m69' u = m77 u ∧ m69 u < m69' u)) : RlG r9 c10 sz vn tk e sb' sent cm m54 m55 m69' m70' m77 m59 m60 m61 m62 m63 m64 m65 := by
  obtain ⟨pi, nm, g1, g2, g3, g4, g5, g6, g7⟩ := h
  refine ⟨pi, nm, g1, g2, g3, g4, g5, fun i a b => ?_, g7⟩
  obtain ⟨k1, k2, k3, k4, k5, k6, k7, k8, k9, k10, k11⟩ := g6 i a b
  have hq := hp _ k2 k3
  refine ⟨k1, k2, k3, k4, k5, k6, by omega, k8, k9, fun q => ?_, fun q => ?_⟩
  · obtain ⟨x1, x2, x3⟩ := k10 q
    exact ⟨x1, x2, by omega⟩
  · obtain ⟨x1, x2, x3, x4, x5⟩ := k11 q
    exact ⟨x1, x2, x3, x4, fun y1 y2 => by
      rcases hq with ⟨z1, z2⟩ | ⟨z1, z2⟩
      · have := x5 y1 (by omega); omega
      · exact absurd (y2.trans z1) y1⟩
theorem Rl.mono {f a s l e f' a' s' l' : Int} {c m : zI} {r : zR} (h : Rl f a s l e c r m) (hf : f ≤ f') (ha : a ≤ a') (hs : s ≤ s') (hl : l ≤ l') : Rl f' a' s' l' e c r m := by
  obtain ⟨h1, h2, h3, h4, h5, h6, h7, h8, h9, h10, h11, h12, h13, h14⟩ := h
  obtain ⟨s1, s2, s3, s4, s5, s6, s7, s8, s9, s10⟩ := h4
  obtain ⟨t1, t2, t3, t4, t5, t6⟩ := h7
  refine ⟨h1, h2, h3, ⟨s1, s2, s3, s4, s5, by omega, s7, s8, by omega, s10⟩, h5, h6, ⟨t1, t2, t3, t4, by omega, t6⟩, h8, fun v a b => ?_, h10, h11, h12, h13.prog hs (fun u _ _ => Or.inl ⟨rfl, Int.le_refl _⟩), h14⟩
  obtain ⟨u1, u2, u3, u4, u5, u6, u7, u8, u9⟩ := h9 v a b
  exact ⟨u1, u2, u3, u4, u5, u6, u7, by omega, u9⟩
theorem RlV.ob {c36 c36' : Int → Int → Int} {vn sl : Int} {m67 m69 m70 m71 m72 m73 m67' m70' m71' : Int → Int} (h : RlV c36 vn sl m67 m69 m70 m71 m72 m73) {v : Int} (hg : m71 v = 1)
    (ec : ∀ u s, c36' u s = if u = v then (if s = 3 then 0 else if s = 2 then c36 v 2 + 1 else if s = 0 ∧ c36 v 4 ≠ -1 then c36 v 4 else c36 v s) else c36 u s)
    (e67 : ∀ u, m67' u = if u = v ∧ m72 v ≠ -1 then m72 v else m67 u) (e70 : ∀ u, m70' u = if u = v then m70 v + 1 else m70 u) (e71 : ∀ u, m71' u = if u = v then 0 else m71 u) :
    RlV c36' vn sl m67' m69 m70' m71' m72 m73 := by
  intro u a b
  obtain ⟨u1, u2, u3, u4, u5, u6, u7, u8, u9⟩ := h u a b
  rw [ec, ec, ec, ec, ec, ec, e67, e70, e71]
  by_cases hu : u = v
  · subst hu
    have u6 := u6 hg
    by_cases h4 : m72 u = -1
    · simp [h4, u6]
      exact ⟨u1, u2, by omega, u7, u8, u9⟩
    · simp [h4, u6]
      exact ⟨u2, by omega, u7, u8, u9⟩
  · simp [hu]
    exact ⟨u1, u2, u3, u4, u5, u6, u7, u8, u9⟩
theorem RlI.ob {c25 : Int → Int → Int} {vn : Int} {m54 m55 m68 m69 m70 m71 m72 m75 m76 m77 m79 m68' m70' m71' : Int → Int} (h : RlI c25 vn m54 m55 m68 m69 m70 m71 m72 m75 m76 m77 m79) {v : Int} (hv : 0 ≤ v ∧ v < vn) (hg : m71 v = 1)
    (hL : ∀ i, 1 ≤ i → i ≤ m54 v → (m55 (301 * v + i) = -1 ↔ (i = c25 v 6 ∨ i = c25 v 7))) (hA : m54 v ≤ 300) (hE : m54 v = 0 ∨ (1 ≤ c25 v 6 ∧ c25 v 6 < c25 v 7 ∧ c25 v 7 ≤ m54 v))
    (e68 : ∀ u, m68' u = if u = v then (if m70 v + 1 = m54 v then 0 else if m72 v = -1 then m68 v + 1 else m68 v) else m68 u) (e70 : ∀ u, m70' u = if u = v then m70 v + 1 else m70 u) (e71 : ∀ u, m71' u = if u = v then 0 else m71 u) :
    RlI c25 vn m54 m55 m68' m69 m70' m71' m72 m75 m76 m77 m79 := by
  intro u a b
  obtain ⟨u1, u2, u3, u4, u5, u6, u7, u8, u9, u10⟩ := h u a b
  rw [e68, e70, e71]
  by_cases hu : u = v
  · subst hu
    have e : m69 u = m77 u := by
      by_cases q : m69 u = m77 u
      · exact q
      · have := (u6 q).1; omega
    obtain ⟨w1, w2, w3⟩ := u5 e
    obtain ⟨w4, w5⟩ := w2 hg
    have w6 := hL (m70 u + 1) (by omega) w4
    rw [← Int.add_assoc, ← w5] at w6
    simp only [if_true]
    refine ⟨u1, u2, by omega, by omega, fun _ => ⟨w4, by omega, ?_⟩, fun q => absurd e q, u7, u8, by omega, u10⟩
    rw [w3]
    clear w3 w2 u5 u6 u9 hL
    by_cases q1 : m70 u + 1 = m54 u
    · rw [if_pos q1, if_pos (by omega)]
    · rw [if_neg q1]
      by_cases q2 : m72 u = -1
      · rw [if_pos q2]
        rcases w6.mp q2 with q3 | q3
        · rw [if_pos (by omega), if_neg (by omega), if_pos (by omega)]
          omega
        · rw [if_neg (by omega), if_pos (by omega), if_neg (by omega), if_neg (by omega)]
          omega
      · have q3 : ¬ (m70 u + 1 = c25 u 6 ∨ m70 u + 1 = c25 u 7) := fun z => q2 (w6.mpr z)
        rw [if_neg q2]
        repeat' split
        all_goals omega
  · simp only [hu, if_false]
    exact ⟨u1, u2, u3, u4, u5, u6, u7, u8, u9, u10⟩
theorem obey_rel {f a s l : Int} {c m : zI} {r : zR} (h : Rl f a s l 1 c r m) {v : Int} (hv : 0 ≤ v ∧ v < m 37 0 10) (hg : m 71 0 v = 1) : Rl f (a + 1) s l 1 (cOb c v) r (mOb m v) := by
  obtain ⟨h1, h2, h3, h4, h5, h6, h7, h8, h9, h10, h11, h12, h13, h14⟩ := h
  unfold Rl
  simp only [mOb_37, cOb_1, mOb_k m v (k := 38) (by decide) (by decide) (by decide) (by decide) (by decide), mOb_k m v (k := 39) (by decide) (by decide) (by decide) (by decide) (by decide), mOb_k m v (k := 40) (by decide) (by decide) (by decide) (by decide) (by decide), mOb_k m v (k := 41) (by decide) (by decide) (by decide) (by decide) (by decide), mOb_k m v (k := 42) (by decide) (by decide) (by decide) (by decide) (by decide), mOb_k m v (k := 45) (by decide) (by decide) (by decide) (by decide) (by decide), mOb_k m v (k := 46) (by decide) (by decide) (by decide) (by decide) (by decide), mOb_k m v (k := 47) (by decide) (by decide) (by decide) (by decide) (by decide), mOb_k m v (k := 48) (by decide) (by decide) (by decide) (by decide) (by decide), mOb_k m v (k := 49) (by decide) (by decide) (by decide) (by decide) (by decide), mOb_k m v (k := 50) (by decide) (by decide) (by decide) (by decide) (by decide), mOb_k m v (k := 51) (by decide) (by decide) (by decide) (by decide) (by decide), mOb_k m v (k := 52) (by decide) (by decide) (by decide) (by decide) (by decide), mOb_k m v (k := 53) (by decide) (by decide) (by decide) (by decide) (by decide), mOb_k m v (k := 54) (by decide) (by decide) (by decide) (by decide) (by decide), mOb_k m v (k := 55) (by decide) (by decide) (by decide) (by decide) (by decide), mOb_k m v (k := 56) (by decide) (by decide) (by decide) (by decide) (by decide), mOb_k m v (k := 59) (by decide) (by decide) (by decide) (by decide) (by decide), mOb_k m v (k := 60) (by decide) (by decide) (by decide) (by decide) (by decide), mOb_k m v (k := 61) (by decide) (by decide) (by decide) (by decide) (by decide), mOb_k m v (k := 62) (by decide) (by decide) (by decide) (by decide) (by decide), mOb_k m v (k := 63) (by decide) (by decide) (by decide) (by decide) (by decide), mOb_k m v (k := 64) (by decide) (by decide) (by decide) (by decide) (by decide), mOb_k m v (k := 65) (by decide) (by decide) (by decide) (by decide) (by decide), mOb_k m v (k := 69) (by decide) (by decide) (by decide) (by decide) (by decide), mOb_k m v (k := 72) (by decide) (by decide) (by decide) (by decide) (by decide), mOb_k m v (k := 73) (by decide) (by decide) (by decide) (by decide) (by decide), mOb_k m v (k := 74) (by decide) (by decide) (by decide) (by decide) (by decide), mOb_k m v (k := 75) (by decide) (by decide) (by decide) (by decide) (by decide), mOb_k m v (k := 76) (by decide) (by decide) (by decide) (by decide) (by decide), mOb_k m v (k := 77) (by decide) (by decide) (by decide) (by decide) (by decide), mOb_k m v (k := 78) (by decide) (by decide) (by decide) (by decide) (by decide), mOb_k m v (k := 79) (by decide) (by decide) (by decide) (by decide) (by decide), mOb_k m v (k := 80) (by decide) (by decide) (by decide) (by decide) (by decide),
    cOb_k c v (k := 2) (by decide) (by decide), cOb_k c v (k := 3) (by decide) (by decide), cOb_k c v (k := 7) (by decide) (by decide), cOb_k c v (k := 8) (by decide) (by decide), cOb_k c v (k := 10) (by decide) (by decide), cOb_k c v (k := 11) (by decide) (by decide), cOb_k c v (k := 12) (by decide) (by decide), cOb_k c v (k := 13) (by decide) (by decide), cOb_k c v (k := 14) (by decide) (by decide), cOb_k c v (k := 15) (by decide) (by decide), cOb_k c v (k := 16) (by decide) (by decide), cOb_k c v (k := 17) (by decide) (by decide), cOb_k c v (k := 24) (by decide) (by decide), cOb_k c v (k := 25) (by decide) (by decide), cOb_k c v (k := 26) (by decide) (by decide), cOb_k c v (k := 27) (by decide) (by decide), cOb_k c v (k := 28) (by decide) (by decide), cOb_k c v (k := 30) (by decide) (by decide), cOb_k c v (k := 31) (by decide) (by decide), cOb_k c v (k := 32) (by decide) (by decide), cOb_k c v (k := 33) (by decide) (by decide), cOb_k c v (k := 34) (by decide) (by decide), cOb_k c v (k := 35) (by decide) (by decide)]
  obtain ⟨s1, s2, s3, s4, s5, s6, s7⟩ := h4
  have hb := h8
  obtain ⟨jm, -, -, -, p⟩ := hb
  have hr := h11 v hv.1 hv.2
  refine ⟨h1, h2, h3, ⟨s1, s2, s3, ?_, ?_, ?_, s7⟩, h5, h6, h7, h8, ?_, h10, h11, ?_, ?_, h14.1, fun u x y => ⟨(h14.2 u x y).1, fun z => ⟨((h14.2 u x y).2 z).1, ?_⟩⟩⟩
  · show c 1 0 10 + 1 = m 37 0 53 + 1
    omega
  · show 0 ≤ m 37 0 53 + 1
    omega
  · show m 37 0 53 + 1 ≤ 6 * m 37 0 61 + (a + 1)
    omega
  · exact h9.ob hg (cOb_36 c v) (mOb_67 m v) (mOb_70 m v) (mOb_71 m v)
  · obtain ⟨r1, r2, r3, r4, r5, r6, r7, r8, r9⟩ := hr
    refine h12.ob hv hg (fun i x y => (r7 i x y).2.2.2.2.1) r4 ?_ (mOb_68 m v) (mOb_70 m v) (mOb_71 m v)
    rcases r9 with r9 | r9
    · exact Or.inl r9.2.2.2.2
    · exact Or.inr ⟨r9.2.1, r9.2.2.1, r9.2.2.2.1⟩
  · refine h13.prog (Int.le_refl _) (fun u _ _ => Or.inl ⟨rfl, ?_⟩)
    rw [mOb_70]
    split
    · rename_i q; rw [q]; omega
    · omega
  · have z2 := ((h14.2 u x y).2 z).2
    rw [mOb_70]
    split
    · rename_i q; rw [q] at z2 ⊢; omega
    · omega
