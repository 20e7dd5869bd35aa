def cLost (c : zI) : zI := zup (zup c 7 0 4 (c 7 0 4 + 1)) 7 0 5 (c 7 0 5 + 1)
def cSnd (c : zI) (pj com due g v p x cl : Int) : zI := zup (zup (zup (zup (zup (zup (zup (zup (zup c 7 0 4 (c 7 0 4 + 1)) 7 0 3 (c 7 0 3 + 1)) 10 pj 0 g) 10 pj 1 v) 10 pj 2 p) 10 pj 3 x) 10 pj 4 cl) 10 pj 5 due) 10 pj 6 com
def mLost (m : zI) : zI := zup (zup m 37 0 35 (m 37 0 35 + 1)) 37 0 36 (m 37 0 36 + 1)
def mRow (m : zI) (t n so v p x cl : Int) : zI := zup (zup (zup (zup (zup (zup (zup (zup m 59 0 (m 37 0 37) t) 60 0 (m 37 0 37) n) 61 0 (m 37 0 37) so) 62 0 (m 37 0 37) v) 63 0 (m 37 0 37) p) 64 0 (m 37 0 37) x) 65 0 (m 37 0 37) cl) 37 0 37 (m 37 0 37 + 1)
theorem mRow_59 (m : zI) (t n so v p x cl k : Int) : mRow m t n so v p x cl 59 0 k = if k = m 37 0 37 then t else m 59 0 k := by simp [mRow, zup]
theorem mRow_60 (m : zI) (t n so v p x cl k : Int) : mRow m t n so v p x cl 60 0 k = if k = m 37 0 37 then n else m 60 0 k := by simp [mRow, zup]
theorem mRow_61 (m : zI) (t n so v p x cl k : Int) : mRow m t n so v p x cl 61 0 k = if k = m 37 0 37 then so else m 61 0 k := by simp [mRow, zup]
theorem mRow_62 (m : zI) (t n so v p x cl k : Int) : mRow m t n so v p x cl 62 0 k = if k = m 37 0 37 then v else m 62 0 k := by simp [mRow, zup]
theorem mRow_63 (m : zI) (t n so v p x cl k : Int) : mRow m t n so v p x cl 63 0 k = if k = m 37 0 37 then p else m 63 0 k := by simp [mRow, zup]
theorem mRow_64 (m : zI) (t n so v p x cl k : Int) : mRow m t n so v p x cl 64 0 k = if k = m 37 0 37 then x else m 64 0 k := by simp [mRow, zup]
theorem mRow_65 (m : zI) (t n so v p x cl k : Int) : mRow m t n so v p x cl 65 0 k = if k = m 37 0 37 then cl else m 65 0 k := by simp [mRow, zup]
theorem mRow_c (m : zI) (t n so v p x cl : Int) : mRow m t n so v p x cl 37 0 37 = m 37 0 37 + 1 := by simp [mRow, zup]
section ZS
variable {hr : zR}
theorem fateOfNext_run {hi : zI} (hR : RSc hr) (h1 : 1 ≤ hi 7 0 2 ∧ hi 7 0 2 ≤ 64) (h2 : 0 ≤ hi 7 0 4) : R0i mX5_fateOfNext [.inr (some (7, 0))] hi hr (hi 8 0 (hi 7 0 4 % hi 7 0 2)) := by
  have a1 := Int.emod_nonneg (hi 7 0 4) (show hi 7 0 2 ≠ 0 by omega)
  have a2 := Int.emod_lt_of_pos (hi 7 0 4) (show 0 < hi 7 0 2 by omega)
  intro P hP
  exact GX5_fateOfNext hR ⟨fun q => absurd q (by omega), fun _ => ⟨⟨h2, by omega⟩, fun q => absurd q (by omega), fun _ => ⟨fun q => absurd q (by omega), fun _ => ⟨⟨a1, by omega⟩, hP⟩⟩⟩⟩
theorem send_run {hi : zI} (hR : RSc hr) {tk g v p x cl f pj : Int} (h1 : 1 ≤ hi 7 0 2 ∧ hi 7 0 2 ≤ 64) (h2 : 0 ≤ hi 7 0 4 ∧ hi 7 0 4 ≤ 10000) (h5 : 0 ≤ hi 7 0 5 ∧ hi 7 0 5 ≤ 10000) (hf : hi 8 0 (hi 7 0 4 % hi 7 0 2) = f) (hf0 : 0 ≤ f ∧ f ≤ 15) (h3 : 0 ≤ hi 7 0 3 ∧ hi 7 0 3 < 64) (hp : hr 9 0 (hi 7 0 3) = some (10, pj)) (hpj : 0 ≤ pj ∧ pj < 64) (hg : g = 0 ∨ g = 1) (ht : 0 ≤ tk ∧ tk ≤ 600) :
    R1v mX5_send [.inr (some (7, 0)), .inl tk, .inl g, .inl v, .inl p, .inl x, .inl cl] hi hr (if f % 2 = 1 then cLost hi else cSnd hi pj (if f < 8 then 1 else 2) (tk + 1 + f / 2 % 4) g v p x cl) := by
  obtain ⟨b1, b2, b3, b4⟩ := fate_bits hf0.1 hf0.2
  intro P hP
  refine GX5_send hR tk g v p x cl (fateOfNext_run hR h1 h2.1 _ ?_)
  rw [hf, b1, b2]
  refine ⟨⟨by omega, by omega⟩, fun q => ?_, fun q => ⟨⟨by omega, by omega⟩, ?_⟩⟩
  · rw [if_neg (by omega)] at hP
    refine ⟨fun q => absurd q (by omega), fun _ => ⟨fun _ => ⟨h3, pj, hp, hpj, ⟨by omega, by omega⟩, hg, ⟨by omega, by omega⟩, ⟨by omega, by omega⟩, fun q8 => ?_, fun q8 => ?_⟩, fun q => absurd q (by omega)⟩⟩
    · rw [if_pos (b3.mp q8)] at hP
      exact hP
    · rw [if_neg (fun z => q8 (b3.mpr z))] at hP
      exact hP
  · rw [if_pos (by omega)] at hP
    exact hP
theorem sends_run {hi : zI} (hM : RSm hr) {so v p x cl f : Int} (h1 : 1 ≤ hi 37 0 17 ∧ hi 37 0 17 ≤ 64) (h2 : 0 ≤ hi 37 0 35 ∧ hi 37 0 35 ≤ 10000) (h5 : 0 ≤ hi 37 0 36 ∧ hi 37 0 36 ≤ 10000) (hf : hi 45 0 (hi 37 0 35 % hi 37 0 17) = f) (hf0 : 0 ≤ f ∧ f ≤ 15) (h3 : 0 ≤ hi 37 0 37 ∧ hi 37 0 37 ≤ 200) (ht : 0 ≤ hi 37 0 61 ∧ hi 37 0 61 ≤ 600) :
    R1v mX12_sends [.inr (some (37, 0)), .inl so, .inl v, .inl p, .inl x, .inl cl] hi hr (if f % 2 = 1 then mLost hi else if f < 8 then mRow (zup hi 37 0 35 (hi 37 0 35 + 1)) (hi 37 0 61 + 1 + f / 2 % 4 + 0) (hi 37 0 35) so v p x cl else mRow (mRow (zup hi 37 0 35 (hi 37 0 35 + 1)) (hi 37 0 61 + 1 + f / 2 % 4 + 0) (hi 37 0 35) so v p x cl) (hi 37 0 61 + 1 + f / 2 % 4 + (0 + 1)) (hi 37 0 35) so v p x cl) := by
  obtain ⟨b1, b2, b3, b4⟩ := fate_bits hf0.1 hf0.2
  have a1 := Int.emod_nonneg (hi 37 0 35) (show hi 37 0 17 ≠ 0 by omega)
  have a2 := Int.emod_lt_of_pos (hi 37 0 35) (show 0 < hi 37 0 17 by omega)
  intro P hP
  refine GX12_sends hM so v p x cl ?_
  rw [hf, b1, b2]
  refine ⟨⟨h2.1, by omega⟩, ⟨a1, by omega⟩, ⟨by omega, by omega⟩, fun q => ⟨⟨by omega, by omega⟩, ⟨by omega, by omega⟩, ?_⟩, fun q => ⟨⟨by omega, by omega⟩, ?_⟩⟩
  · rw [if_neg (by omega)] at hP
    have step : ∀ (m : zI) (a9 : Int), 0 ≤ a9 → a9 ≤ f / 8 → 0 ≤ m 37 0 37 → m 37 0 37 ≤ 300 → WP mX12_sends 69 [some (.inr (some (37, 0))), some (.inl so), some (.inl v), some (.inl p), some (.inl x), some (.inl cl), some (.inl f), some (.inl (hi 37 0 35)), some (.inl (hi 37 0 61 + 1 + f / 2 % 4)), some (.inl (a9 + 1))] [] (mRow m (hi 37 0 61 + 1 + f / 2 % 4 + a9) (hi 37 0 35) so v p x cl) hr (zQ1v hr P) → WP mX12_sends 69 [some (.inr (some (37, 0))), some (.inl so), some (.inl v), some (.inl p), some (.inl x), some (.inl cl), some (.inl f), some (.inl (hi 37 0 35)), some (.inl (hi 37 0 61 + 1 + f / 2 % 4)), some (.inl a9)] [] m hr (zQ1v hr P) := by
      intro m a9 c1 c2 c3 c4 k
      have hb : 0 ≤ m 37 0 37 ∧ m 37 0 37 < 400 := by omega
      refine GX12_sends_69 hM so v p x cl f _ _ a9 ?_
      rw [b4]
      exact ⟨fun q => absurd q (by omega), fun _ => ⟨⟨by omega, by omega⟩, hb, hb, hb, hb, hb, hb, hb, ⟨by omega, by omega⟩, ⟨by omega, by omega⟩, k⟩⟩
    refine step _ 0 (by omega) (by omega) h3.1 (by show hi 37 0 37 ≤ 300; omega) ?_
    by_cases h8 : f < 8
    · rw [if_pos h8] at hP
      refine GX12_sends_69 hM so v p x cl f _ _ _ ?_
      rw [b4]
      exact ⟨fun _ => hP, fun q => absurd q (by omega)⟩
    · rw [if_neg h8] at hP
      refine step _ (0 + 1) (by omega) (by omega) (by show 0 ≤ hi 37 0 37 + 1; omega) (by show hi 37 0 37 + 1 ≤ 300; omega) ?_
      refine GX12_sends_69 hM so v p x cl f _ _ _ ?_
      rw [b4]
      exact ⟨fun _ => hP, fun q => absurd q (by omega)⟩
  · rw [if_pos (by omega)] at hP
    exact hP
end ZS
/-- what the class's sending leaves, and what the reference's: the relation goes on -/
theorem send_rel {f a s l : Int} {c m : zI} {r : zR} (h : Rl f a s l 1 c r m) (hs : 0 ≤ s ∧ s ≤ 11) {g v p x cl pj ft : Int} (hft : 0 ≤ ft ∧ ft ≤ 15) (hpj : r 9 0 (c 7 0 3) = some (10, pj)) (hg : g = 0 ∨ g = 1) (hv : 0 ≤ v ∧ v < m 37 0 10)
    (hrep : g = 0 → 0 ≤ p ∧ 0 ≤ x ∧ (p < m 69 0 v ∨ (p = m 69 0 v ∧ x ≤ m 70 0 v)))
    (hgr : g = 1 → 1 ≤ p ∧ p ≤ m 77 0 v ∧ 1 ≤ x ∧ (p = m 77 0 v → x ≤ m 54 0 v ∧ cl = m 55 0 (301 * v + x)) ∧ (p ≠ m 77 0 v → p = m 69 0 v → x ≤ m 70 0 v)) :
    Rl f a (s + 1) l 1 (if ft % 2 = 1 then cLost c else cSnd c pj (if ft < 8 then 1 else 2) (m 37 0 61 + 1 + ft / 2 % 4) g v p x cl) r (if ft % 2 = 1 then mLost m else if ft < 8 then mRow (zup m 37 0 35 (m 37 0 35 + 1)) (m 37 0 61 + 1 + ft / 2 % 4 + 0) (m 37 0 35) (1 - g) v p x cl else mRow (mRow (zup m 37 0 35 (m 37 0 35 + 1)) (m 37 0 61 + 1 + ft / 2 % 4 + 0) (m 37 0 35) (1 - g) v p x cl) (m 37 0 61 + 1 + ft / 2 % 4 + (0 + 1)) (m 37 0 35) (1 - g) v p x cl) := by
  obtain ⟨h1, h2, h3, h4, h5, h6, h7, h8, h9, h10, h11, h12, h13, h14⟩ := h
  obtain ⟨s1, s2, s3, s4, s5, s6, s7, s8, s9, s10, s11, s12, s13⟩ := h4
  by_cases q1 : ft % 2 = 1
  · rw [if_pos q1, if_pos q1]
    refine ⟨h1, h2, h3, ⟨s1, s2, s3, s4, s5, s6, ?_, ?_, ?_, ?_, ?_, ?_, s13⟩, h5, h6, h7, h8, h9, h10, h11, h12, h13.lost, h14⟩
    · show c 7 0 4 + 1 = m 37 0 35 + 1
      omega
    · show 0 ≤ m 37 0 35 + 1
      omega
    · show m 37 0 35 + 1 ≤ 12 * m 37 0 61 + (s + 1)
      omega
    · show c 7 0 5 + 1 = m 37 0 36 + 1
      omega
    · show 0 ≤ m 37 0 36 + 1
      omega
    · show m 37 0 36 + 1 ≤ m 37 0 35 + 1
      omega
  · rw [if_neg q1, if_neg q1]
    have hS : RlS (c 1 0 9) (c 1 0 10) (c 7 0 4 + 1) (c 7 0 5) (c 17 0 2) (m 37 0 61) (m 37 0 53) (m 37 0 35 + 1) (m 37 0 36) (m 37 0 10) (6 * m 37 0 61 + a) (12 * m 37 0 61 + (s + 1)) := ⟨s1, s2, s3, s4, s5, s6, by omega, by omega, by omega, s10, s11, by omega, s13⟩
    have hM1 : ∀ com, (com = 1 ∨ com = 2) → RlM1 (cSnd c pj com (m 37 0 61 + 1 + ft / 2 % 4) g v p x cl 10 pj) (m 37 0 10) (m 37 0 61) 1 (s + 1) (m 37 0 35) (m 37 0 35 + 1) (m 54 0) (m 55 0) (m 69 0) (m 70 0) (m 77 0) := by
      intro com hcom
      have f0 : cSnd c pj com (m 37 0 61 + 1 + ft / 2 % 4) g v p x cl 10 pj 0 = g := by simp [cSnd, zup]
      have f1 : cSnd c pj com (m 37 0 61 + 1 + ft / 2 % 4) g v p x cl 10 pj 1 = v := by simp [cSnd, zup]
      have f2 : cSnd c pj com (m 37 0 61 + 1 + ft / 2 % 4) g v p x cl 10 pj 2 = p := by simp [cSnd, zup]
      have f3 : cSnd c pj com (m 37 0 61 + 1 + ft / 2 % 4) g v p x cl 10 pj 3 = x := by simp [cSnd, zup]
      have f4 : cSnd c pj com (m 37 0 61 + 1 + ft / 2 % 4) g v p x cl 10 pj 4 = cl := by simp [cSnd, zup]
      have f5 : cSnd c pj com (m 37 0 61 + 1 + ft / 2 % 4) g v p x cl 10 pj 5 = m 37 0 61 + 1 + ft / 2 % 4 := by simp [cSnd, zup]
      have f6 : cSnd c pj com (m 37 0 61 + 1 + ft / 2 % 4) g v p x cl 10 pj 6 = com := by simp [cSnd, zup]
      unfold RlM1
      rw [f0, f1, f2, f3, f4, f5, f6]
      exact ⟨hg, hv.1, hv.2, hcom, by omega, by omega, by omega, by omega, by omega, hrep, hgr⟩
    have hcj : ∀ com j, j ≠ pj → cSnd c pj com (m 37 0 61 + 1 + ft / 2 % 4) g v p x cl 10 j = c 10 j := by
      intro com j hj
      funext t
      simp [cSnd, zup, hj]
    have hc6 : ∀ com, cSnd c pj com (m 37 0 61 + 1 + ft / 2 % 4) g v p x cl 10 pj 6 = com := fun com => by simp [cSnd, zup]
    by_cases q8 : ft < 8
    · rw [if_pos q8, if_pos q8]
      refine ⟨h1, h2, h3, hS, h5, h6, h7, h8, h9, h10, h11, h12, ?_, h14⟩
      refine h13.add hs.2 hs.1 s8 hpj (hcj 1) (hc6 1) (hM1 1 (Or.inl rfl)) ?_ ?_ ?_ ?_ ?_ ?_ ?_ ?_
      · intro k hk
        have z : (zup m 37 0 35 (m 37 0 35 + 1)) 37 0 37 = m 37 0 37 := rfl
        show mRow _ _ _ _ _ _ _ _ 59 0 k = _
        rw [mRow_59, z, if_neg (by omega)]
        rfl
      · intro k hk
        have z : (zup m 37 0 35 (m 37 0 35 + 1)) 37 0 37 = m 37 0 37 := rfl
        show mRow _ _ _ _ _ _ _ _ 60 0 k = _
        rw [mRow_60, z, if_neg (by omega)]
        rfl
      · intro k hk
        have z : (zup m 37 0 35 (m 37 0 35 + 1)) 37 0 37 = m 37 0 37 := rfl
        show mRow _ _ _ _ _ _ _ _ 61 0 k = _
        rw [mRow_61, z, if_neg (by omega)]
        rfl
      · intro k hk
        have z : (zup m 37 0 35 (m 37 0 35 + 1)) 37 0 37 = m 37 0 37 := rfl
        show mRow _ _ _ _ _ _ _ _ 62 0 k = _
        rw [mRow_62, z, if_neg (by omega)]
        rfl
      · intro k hk
        have z : (zup m 37 0 35 (m 37 0 35 + 1)) 37 0 37 = m 37 0 37 := rfl
        show mRow _ _ _ _ _ _ _ _ 63 0 k = _
        rw [mRow_63, z, if_neg (by omega)]
        rfl
      · intro k hk
        have z : (zup m 37 0 35 (m 37 0 35 + 1)) 37 0 37 = m 37 0 37 := rfl
        show mRow _ _ _ _ _ _ _ _ 64 0 k = _
        rw [mRow_64, z, if_neg (by omega)]
        rfl
      · intro k hk
        have z : (zup m 37 0 35 (m 37 0 35 + 1)) 37 0 37 = m 37 0 37 := rfl
        show mRow _ _ _ _ _ _ _ _ 65 0 k = _
        rw [mRow_65, z, if_neg (by omega)]
        rfl
      · intro y y0 y1
        have e : y = 0 := by omega
        subst e
        have z : (zup m 37 0 35 (m 37 0 35 + 1)) 37 0 37 = m 37 0 37 := rfl
        have f0 : cSnd c pj 1 (m 37 0 61 + 1 + ft / 2 % 4) g v p x cl 10 pj 0 = g := by simp [cSnd, zup]
        have f1 : cSnd c pj 1 (m 37 0 61 + 1 + ft / 2 % 4) g v p x cl 10 pj 1 = v := by simp [cSnd, zup]
        have f2 : cSnd c pj 1 (m 37 0 61 + 1 + ft / 2 % 4) g v p x cl 10 pj 2 = p := by simp [cSnd, zup]
        have f3 : cSnd c pj 1 (m 37 0 61 + 1 + ft / 2 % 4) g v p x cl 10 pj 3 = x := by simp [cSnd, zup]
        have f4 : cSnd c pj 1 (m 37 0 61 + 1 + ft / 2 % 4) g v p x cl 10 pj 4 = cl := by simp [cSnd, zup]
        have f5 : cSnd c pj 1 (m 37 0 61 + 1 + ft / 2 % 4) g v p x cl 10 pj 5 = m 37 0 61 + 1 + ft / 2 % 4 := by simp [cSnd, zup]
        rw [Int.add_zero]
        show mRow _ _ _ _ _ _ _ _ 59 0 _ = _ ∧ mRow _ _ _ _ _ _ _ _ 60 0 _ = _ ∧ mRow _ _ _ _ _ _ _ _ 61 0 _ = _ ∧ mRow _ _ _ _ _ _ _ _ 62 0 _ = _ ∧ mRow _ _ _ _ _ _ _ _ 63 0 _ = _ ∧ mRow _ _ _ _ _ _ _ _ 64 0 _ = _ ∧ mRow _ _ _ _ _ _ _ _ 65 0 _ = _
        rw [mRow_59, mRow_60, mRow_61, mRow_62, mRow_63, mRow_64, mRow_65, z, f0, f1, f2, f3, f4, f5]
        refine ⟨?_, ?_, ?_, ?_, ?_, ?_, ?_⟩ <;> (repeat' split) <;> first | rfl | omega
    · rw [if_neg q8, if_neg q8]
      refine ⟨h1, h2, h3, hS, h5, h6, h7, h8, h9, h10, h11, h12, ?_, h14⟩
      have z2 : mRow (mRow (zup m 37 0 35 (m 37 0 35 + 1)) (m 37 0 61 + 1 + ft / 2 % 4 + 0) (m 37 0 35) (1 - g) v p x cl) (m 37 0 61 + 1 + ft / 2 % 4 + (0 + 1)) (m 37 0 35) (1 - g) v p x cl 37 0 37 = m 37 0 37 + 2 := by
        rw [mRow_c, mRow_c]
        show m 37 0 37 + 1 + 1 = _
        omega
      rw [z2]
      refine h13.add hs.2 hs.1 s8 hpj (hcj 2) (hc6 2) (hM1 2 (Or.inr rfl)) ?_ ?_ ?_ ?_ ?_ ?_ ?_ ?_
      · intro k hk
        have z : (zup m 37 0 35 (m 37 0 35 + 1)) 37 0 37 = m 37 0 37 := rfl
        show mRow (mRow _ _ _ _ _ _ _ _) _ _ _ _ _ _ _ 59 0 k = _
        rw [mRow_59, mRow_c, z, if_neg (by omega), mRow_59, z, if_neg (by omega)]
        rfl
      · intro k hk
        have z : (zup m 37 0 35 (m 37 0 35 + 1)) 37 0 37 = m 37 0 37 := rfl
        show mRow (mRow _ _ _ _ _ _ _ _) _ _ _ _ _ _ _ 60 0 k = _
        rw [mRow_60, mRow_c, z, if_neg (by omega), mRow_60, z, if_neg (by omega)]
        rfl
      · intro k hk
        have z : (zup m 37 0 35 (m 37 0 35 + 1)) 37 0 37 = m 37 0 37 := rfl
        show mRow (mRow _ _ _ _ _ _ _ _) _ _ _ _ _ _ _ 61 0 k = _
        rw [mRow_61, mRow_c, z, if_neg (by omega), mRow_61, z, if_neg (by omega)]
        rfl
      · intro k hk
        have z : (zup m 37 0 35 (m 37 0 35 + 1)) 37 0 37 = m 37 0 37 := rfl
        show mRow (mRow _ _ _ _ _ _ _ _) _ _ _ _ _ _ _ 62 0 k = _
        rw [mRow_62, mRow_c, z, if_neg (by omega), mRow_62, z, if_neg (by omega)]
        rfl
      · intro k hk
        have z : (zup m 37 0 35 (m 37 0 35 + 1)) 37 0 37 = m 37 0 37 := rfl
        show mRow (mRow _ _ _ _ _ _ _ _) _ _ _ _ _ _ _ 63 0 k = _
        rw [mRow_63, mRow_c, z, if_neg (by omega), mRow_63, z, if_neg (by omega)]
        rfl
      · intro k hk
        have z : (zup m 37 0 35 (m 37 0 35 + 1)) 37 0 37 = m 37 0 37 := rfl
        show mRow (mRow _ _ _ _ _ _ _ _) _ _ _ _ _ _ _ 64 0 k = _
        rw [mRow_64, mRow_c, z, if_neg (by omega), mRow_64, z, if_neg (by omega)]
        rfl
      · intro k hk
        have z : (zup m 37 0 35 (m 37 0 35 + 1)) 37 0 37 = m 37 0 37 := rfl
        show mRow (mRow _ _ _ _ _ _ _ _) _ _ _ _ _ _ _ 65 0 k = _
        rw [mRow_65, mRow_c, z, if_neg (by omega), mRow_65, z, if_neg (by omega)]
        rfl
      · intro y y0 y1
        have z : (zup m 37 0 35 (m 37 0 35 + 1)) 37 0 37 = m 37 0 37 := rfl
        have f0 : cSnd c pj 2 (m 37 0 61 + 1 + ft / 2 % 4) g v p x cl 10 pj 0 = g := by simp [cSnd, zup]
        have f1 : cSnd c pj 2 (m 37 0 61 + 1 + ft / 2 % 4) g v p x cl 10 pj 1 = v := by simp [cSnd, zup]
        have f2 : cSnd c pj 2 (m 37 0 61 + 1 + ft / 2 % 4) g v p x cl 10 pj 2 = p := by simp [cSnd, zup]
        have f3 : cSnd c pj 2 (m 37 0 61 + 1 + ft / 2 % 4) g v p x cl 10 pj 3 = x := by simp [cSnd, zup]
        have f4 : cSnd c pj 2 (m 37 0 61 + 1 + ft / 2 % 4) g v p x cl 10 pj 4 = cl := by simp [cSnd, zup]
        have f5 : cSnd c pj 2 (m 37 0 61 + 1 + ft / 2 % 4) g v p x cl 10 pj 5 = m 37 0 61 + 1 + ft / 2 % 4 := by simp [cSnd, zup]
        show mRow _ _ _ _ _ _ _ _ 59 0 _ = _ ∧ mRow _ _ _ _ _ _ _ _ 60 0 _ = _ ∧ mRow _ _ _ _ _ _ _ _ 61 0 _ = _ ∧ mRow _ _ _ _ _ _ _ _ 62 0 _ = _ ∧ mRow _ _ _ _ _ _ _ _ 63 0 _ = _ ∧ mRow _ _ _ _ _ _ _ _ 64 0 _ = _ ∧ mRow _ _ _ _ _ _ _ _ 65 0 _ = _
        rw [mRow_59, mRow_60, mRow_61, mRow_62, mRow_63, mRow_64, mRow_65, mRow_c, mRow_59, mRow_60, mRow_61, mRow_62, mRow_63, mRow_64, mRow_65, z, f0, f1, f2, f3, f4, f5]
        rcases (show y = 0 ∨ y = 1 by omega) with e | e
        · subst e
          refine ⟨?_, ?_, ?_, ?_, ?_, ?_, ?_⟩ <;> (repeat' split) <;> first | rfl | omega
        · subst e
          refine ⟨?_, ?_, ?_, ?_, ?_, ?_, ?_⟩ <;> (repeat' split) <;> first | rfl | omega
