/-- the class and its spare map while signs are read: lines, signs of the line, width -/
def CI (j ln x wd : Int) (c : zI) : Prop := c 4 0 3 = ln ∧ c 4 0 4 = x ∧ (0 < ln → c 30 j 6 = wd ∧ 1 ≤ wd ∧ wd ≤ 16 ∧ x ≤ wd) ∧ (0 ≤ ln ∧ ln ≤ 16) ∧ (0 ≤ x ∧ x ≤ 16) ∧ (ln = 16 → x = 0) ∧ c 30 j 5 = ln * wd + x ∧ MpI (c 31 j) (ln * wd + x) (c 30 j 7) (c 30 j 8) (c 32 j) (c 34 j) (c 35 j) 10 6
/-- the reference meanwhile -/
def RI (j ln x wd : Int) (c m : zI) : Prop := m 37 0 13 = ln ∧ ((ln = 0 ∧ m 37 0 14 = -1) ∨ (0 < ln ∧ m 37 0 14 = wd)) ∧ m 37 0 3 = 0 ∧ ∀ y u, 0 ≤ y → 0 ≤ u → ((y < ln ∧ u < wd) ∨ (y = ln ∧ u < x)) → c 31 j (y * wd + u) = m 39 0 (256 + 16 * y + u)
/-- what reading keeps of the reference -/
def rdE (m m' : zI) : Prop := (∀ k, k ≠ 37 → k ≠ 39 → k ≠ 43 → k ≠ 44 → m' k = m k) ∧ (∀ s, s ≠ 3 → s ≠ 4 → s ≠ 13 → s ≠ 14 → m' 37 0 s = m 37 0 s) ∧ (∀ i, i < 256 → m' 39 0 i = m 39 0 i)
theorem rdE.refl (m : zI) : rdE m m := ⟨fun _ _ _ _ _ => rfl, fun _ _ _ _ _ => rfl, fun _ _ => rfl⟩
theorem rdE.trans {a b c : zI} (h : rdE a b) (h' : rdE b c) : rdE a c := ⟨fun k x y z w => (h'.1 k x y z w).trans (h.1 k x y z w), fun s a1 a2 a3 a4 => (h'.2.1 s a1 a2 a3 a4).trans (h.2.1 s a1 a2 a3 a4), fun i hi => (h'.2.2 i hi).trans (h.2.2 i hi)⟩
theorem rdE.z37 {a b : zI} {s x : Int} (h : rdE a b) (hs : s = 3 ∨ s = 4 ∨ s = 13 ∨ s = 14) : rdE a (zup b 37 0 s x) :=
  ⟨fun k x1 x2 x3 x4 => (zup_kf _ _ _ _ x1).trans (h.1 k x1 x2 x3 x4), fun s' a1 a2 a3 a4 => (zup_f _ _ _ _ _ _ (by omega)).trans (h.2.1 s' a1 a2 a3 a4), fun i hi => (congrFun (congrFun (zup_kf _ _ _ _ (by decide)) 0) i).trans (h.2.2 i hi)⟩
theorem rdE.z39 {a b : zI} {s x : Int} (h : rdE a b) (hs : 256 ≤ s) : rdE a (zup b 39 0 s x) :=
  ⟨fun k x1 x2 x3 x4 => (zup_kf _ _ _ _ x2).trans (h.1 k x1 x2 x3 x4), fun s' a1 a2 a3 a4 => (congrFun (congrFun (zup_kf _ _ _ _ (by decide)) 0) s').trans (h.2.1 s' a1 a2 a3 a4), fun i hi => (zup_f _ _ _ _ _ _ (by omega)).trans (h.2.2 i hi)⟩
/-- a line ends: the class -/
theorem endLine_bad {j ln x wd : Int} {c : zI} {r : zR} (hj : 0 ≤ j ∧ j < 2) (h : CI j ln x wd c) (F : x = 0 ∨ (0 < ln ∧ x < wd)) : ∃ c', R1i mX2_endLine [.inr (some (4, 0)), .inr (some (30, j))] c r 2 c' ∧ spE j c c' ∧ c' 4 = c 4 := by
  obtain ⟨h1, h2, h3, h4, h5, h6, h7, h8⟩ := h
  by_cases q : ln = 0
  · refine ⟨zup c 30 j 6 (c 4 0 4), fun P hP => GX2_endLine j hj ⟨fun z => absurd (h1.trans q) z, fun _ => ⟨fun _ => hP, fun z => absurd z (by omega)⟩⟩, (spE.refl j c).zj (by decide), zup_kf _ _ _ _ (by decide)⟩
  · have h3' := h3 (by omega)
    exact ⟨c, fun P hP => GX2_endLine j hj ⟨fun _ => ⟨fun _ => hP, fun _ => ⟨fun z => absurd z (by omega), fun _ => hP⟩⟩, fun z => absurd z (by omega)⟩, spE.refl j c, rfl⟩
theorem endLine_ok {j ln x wd : Int} {c : zI} {r : zR} (hj : 0 ≤ j ∧ j < 2) (h : CI j ln x wd c) (F : ¬ (x = 0 ∨ (0 < ln ∧ x < wd))) : ∃ c' wd', R1i mX2_endLine [.inr (some (4, 0)), .inr (some (30, j))] c r 0 c' ∧ spE j c c' ∧ c' 4 0 2 = c 4 0 2 ∧ CI j (ln + 1) 0 wd' c' ∧ ((ln = 0 ∧ wd' = x) ∨ (0 < ln ∧ wd' = wd ∧ x = wd)) ∧ c' 31 j = c 31 j := by
  obtain ⟨h1, h2, h3, h4, h5, h6, h7, h8⟩ := h
  by_cases q : ln = 0
  · refine ⟨zup (zup (zup c 30 j 6 (c 4 0 4)) 4 0 3 (c 4 0 3 + 1)) 4 0 4 0, x, fun P hP => GX2_endLine j hj ⟨fun z => absurd (h1.trans q) z, fun _ => ⟨fun z => absurd z (by omega), fun _ => ⟨fun _ => ⟨⟨by omega, by omega⟩, hP⟩, fun z => absurd z (by omega)⟩⟩⟩, (((spE.refl j c).zj (by decide)).z4 (by decide)).z4 (by decide), rfl, ?_, Or.inl ⟨q, rfl⟩, rfl⟩
    have e : (ln + 1) * x + 0 = ln * wd + x := by rw [q]; omega
    refine ⟨?_, rfl, fun _ => ⟨?_, by omega, by omega, by omega⟩, by omega, by omega, fun _ => rfl, ?_, ?_⟩
    · show c 4 0 3 + 1 = ln + 1
      rw [h1]
    · show zup c 30 j 6 (c 4 0 4) 30 j 6 = x
      rw [zup_s, h2]
    · show zup c 30 j 6 (c 4 0 4) 30 j 5 = (ln + 1) * x + 0
      rw [zup_f _ _ _ _ _ _ (by decide), e, h7]
    · rw [e]
      show MpI (c 31 j) (ln * wd + x) (zup c 30 j 6 (c 4 0 4) 30 j 7) (zup c 30 j 6 (c 4 0 4) 30 j 8) (c 32 j) (c 34 j) (c 35 j) 10 6
      rw [zup_f _ _ _ _ _ _ (by decide), zup_f _ _ _ _ _ _ (by decide)]
      exact h8
  · have h3' := h3 (by omega)
    have ex : x = wd := by omega
    have e : (ln + 1) * wd + 0 = ln * wd + x := by rw [Int.add_mul, ex]; omega
    refine ⟨zup (zup c 4 0 3 (c 4 0 3 + 1)) 4 0 4 0, wd, fun P hP => GX2_endLine j hj ⟨fun _ => ⟨fun z => absurd z (by omega), fun _ => ⟨fun _ => ⟨⟨by omega, by omega⟩, hP⟩, fun z => absurd z (by omega)⟩⟩, fun z => absurd z (by omega)⟩, ((spE.refl j c).z4 (by decide)).z4 (by decide), rfl, ?_, Or.inr ⟨by omega, rfl, ex⟩, rfl⟩
    refine ⟨?_, rfl, fun _ => ⟨h3'.1, h3'.2.1, h3'.2.2.1, by omega⟩, by omega, by omega, fun _ => rfl, ?_, ?_⟩
    · show c 4 0 3 + 1 = ln + 1
      rw [h1]
    · rw [e]; exact h7
    · rw [e]; exact h8
/-- a line ends: the reference -/
theorem ends_bad {m : zI} {hr : zR} (hM : RSm hr) {sz x i ln wd : Int} (hrw : (ln = 0 ∧ m 37 0 14 = -1) ∨ (0 < ln ∧ m 37 0 14 = wd)) (hwd : 0 < ln → 1 ≤ wd) (hx : 0 ≤ x) (F : x = 0 ∨ (0 < ln ∧ x < wd)) (P : zI → Prop) (hP : P (zup (zup m 37 0 3 2) 37 0 4 i)) (u5 u6 : Option zV) : WP mX12_cuts 68 [some (.inr (some (37, 0))), some (.inl sz), some (.inl x), some (.inl i), some (.inl 1), u5, u6] [] m hr (zQ1v hr P) := by
  have c164 : WP mX12_cuts 164 [some (.inr (some (37, 0))), some (.inl sz), some (.inl x), some (.inl i), some (.inl 1), some (.inl (-1)), some (.inl 0)] [] m hr (zQ1v hr P) := GX12_cuts_164 sz x i 1 (-1) 0 (GX12_cuts_197 hM sz x i 1 (-1) 2 ⟨fun z => absurd z (by decide), fun _ => hP⟩)
  have c129 : m 37 0 14 ≠ -1 → WP mX12_cuts 129 [some (.inr (some (37, 0))), some (.inl sz), some (.inl x), some (.inl i), some (.inl 1), some (.inl (-1)), some (.inl 0)] [] m hr (zQ1v hr P) := fun hne => GX12_cuts_129 sz x i 1 (-1) 0 ⟨fun z => absurd z hne, fun _ => ⟨fun z => by exfalso; omega, fun _ => c164⟩⟩
  refine GX12_cuts_68 hM sz x i 1 u5 u6 ⟨fun z => absurd z (by decide), fun _ => GX12_cuts_90 sz x i 1 u5 u6 (-1) ⟨fun _ => GX12_cuts_112 sz x i 1 (-1) 0 ⟨fun z => absurd z (by decide), fun _ => ⟨fun z => c129 (by omega), fun z => ⟨fun _ => c164, fun w => c129 w⟩⟩⟩, fun z => absurd z (by decide)⟩⟩
theorem ends_ok {m : zI} {hr : zR} (hM : RSm hr) {sz x i ln wd : Int} (h13 : m 37 0 13 = ln) (hln : 0 ≤ ln ∧ ln ≤ 16) (hrw : (ln = 0 ∧ m 37 0 14 = -1) ∨ (0 < ln ∧ m 37 0 14 = wd)) (hwd : 0 < ln → 1 ≤ wd) (hx : 0 ≤ x) (hi : 0 ≤ i ∧ i ≤ 400) (F : ¬ (x = 0 ∨ (0 < ln ∧ x < wd))) (P : zI → Prop) (hP : ∀ u4 u5 u6, WP mX12_cuts 19 [some (.inr (some (37, 0))), some (.inl sz), some (.inl 0), some (.inl (i + 1)), u4, u5, u6] [] (zup (if ln = 0 then zup m 37 0 14 x else m) 37 0 13 (ln + 1)) hr (zQ1v hr P)) (u5 u6 : Option zV) : WP mX12_cuts 68 [some (.inr (some (37, 0))), some (.inl sz), some (.inl x), some (.inl i), some (.inl 1), u5, u6] [] m hr (zQ1v hr P) := by
  have c197 : WP mX12_cuts 197 [some (.inr (some (37, 0))), some (.inl sz), some (.inl x), some (.inl i), some (.inl 1), some (.inl (-1)), some (.inl 0)] [] m hr (zQ1v hr P) := by
    refine GX12_cuts_197 hM sz x i 1 (-1) 0 ⟨fun _ => ⟨fun z => absurd z (by decide), fun _ => ⟨fun z => GX12_cuts_232 sz x i 1 (-1) 0 ?_, fun z => GX12_cuts_232 sz x i 1 (-1) 0 ?_⟩⟩, fun z => absurd z (by decide)⟩
    · have q : ln ≠ 0 := by omega
      have := hP (some (.inl 1)) (some (.inl (-1))) (some (.inl 0))
      rw [if_neg q] at this
      rw [h13]
      exact ⟨⟨by omega, by omega⟩, GX12_cuts_270 sz 0 i 1 (-1) 0 ⟨⟨by omega, by omega⟩, this⟩⟩
    · have q : ln = 0 := by omega
      have := hP (some (.inl 1)) (some (.inl (-1))) (some (.inl 0))
      rw [if_pos q] at this
      have e : zup m 37 0 14 x 37 0 13 = ln := by rw [zup_f _ _ _ _ _ _ (by decide)]; exact h13
      rw [e]
      exact ⟨⟨by omega, by omega⟩, GX12_cuts_270 sz 0 i 1 (-1) 0 ⟨⟨by omega, by omega⟩, this⟩⟩
  have c170 : WP mX12_cuts 170 [some (.inr (some (37, 0))), some (.inl sz), some (.inl x), some (.inl i), some (.inl 1), some (.inl (-1)), some (.inl 0)] [] m hr (zQ1v hr P) := GX12_cuts_170 sz x i 1 (-1) 0 ⟨fun _ => GX12_cuts_183 sz x i 1 (-1) 0 ⟨fun _ => c197, fun z => absurd z (by decide)⟩, fun z => by exfalso; omega⟩
  have c129 : WP mX12_cuts 129 [some (.inr (some (37, 0))), some (.inl sz), some (.inl x), some (.inl i), some (.inl 1), some (.inl (-1)), some (.inl 0)] [] m hr (zQ1v hr P) := GX12_cuts_129 sz x i 1 (-1) 0 ⟨fun _ => c170, fun _ => ⟨fun _ => c170, fun z => by exfalso; omega⟩⟩
  exact GX12_cuts_68 hM sz x i 1 u5 u6 ⟨fun z => absurd z (by decide), fun _ => GX12_cuts_90 sz x i 1 u5 u6 (-1) ⟨fun _ => GX12_cuts_112 sz x i 1 (-1) 0 ⟨fun z => absurd z (by decide), fun _ => ⟨fun z => c129, fun z => by exfalso; omega⟩⟩, fun z => absurd z (by decide)⟩⟩
/-- the relation when a line has ended -/
theorem RI.line {j ln x wd wd' : Int} {c c' m : zI} (h : RI j ln x wd c m) (hln : 0 ≤ ln) (hw : (ln = 0 ∧ wd' = x) ∨ (0 < ln ∧ wd' = wd ∧ x = wd)) (e : c' 31 j = c 31 j) : RI j (ln + 1) 0 wd' c' (zup (if ln = 0 then zup m 37 0 14 x else m) 37 0 13 (ln + 1)) := by
  obtain ⟨h1, h2, h3, h4⟩ := h
  by_cases q : ln = 0
  · rw [if_pos q]
    refine ⟨zup_s _ _ _ _ _, Or.inr ⟨by omega, ?_⟩, ?_, fun y u y0 u0 z => ?_⟩
    · rw [zup_f _ _ _ _ _ _ (by decide), zup_s]; omega
    · rw [zup_f _ _ _ _ _ _ (by decide), zup_f _ _ _ _ _ _ (by decide)]; exact h3
    · rw [zup_kf _ _ _ _ (by decide), zup_kf _ _ _ _ (by decide), e]
      have ey : y = 0 := by omega
      have := h4 y u y0 u0 (Or.inr ⟨by omega, by omega⟩)
      rw [ey, Int.zero_mul] at this ⊢
      exact this
  · rw [if_neg q]
    refine ⟨zup_s _ _ _ _ _, Or.inr ⟨by omega, ?_⟩, ?_, fun y u y0 u0 z => ?_⟩
    · rw [zup_f _ _ _ _ _ _ (by decide)]; omega
    · rw [zup_f _ _ _ _ _ _ (by decide)]; exact h3
    · rw [zup_kf _ _ _ _ (by decide), e]
      have ew : wd' = wd := by omega
      rw [ew]
      exact h4 y u y0 u0 (by omega)
/-- a sign that is wrong, or too much: the reference -/
theorem sign_bad {m : zI} {hr : zR} (hM : RSm hr) {sz x i ln wd k f : Int} {b : Int} (h13 : m 37 0 13 = ln) (hi : 0 ≤ i ∧ i < 400) (hb : zand (m 38 0 i) 255 = b) (ek : sgn b = k) (hrw : (ln = 0 ∧ m 37 0 14 = -1) ∨ (0 < ln ∧ m 37 0 14 = wd)) (hwd : 0 < ln → 1 ≤ wd) (hx : 0 ≤ x ∧ x ≤ 16) (F : (k = -1 ∧ f = 1) ∨ (k ≠ -1 ∧ 0 < ln ∧ wd ≤ x ∧ f = 2) ∨ (k ≠ -1 ∧ ¬ (0 < ln ∧ wd ≤ x) ∧ ((ln = 16 ∧ x = 0) ∨ x = 16) ∧ f = 3)) (P : zI → Prop) (hP : P (zup (zup m 37 0 3 f) 37 0 4 i)) (u5 u6 : Option zV) : WP mX12_cuts 68 [some (.inr (some (37, 0))), some (.inl sz), some (.inl x), some (.inl i), some (.inl 0), u5, u6] [] m hr (zQ1v hr P) := by
  refine GX12_cuts_68 hM sz x i 0 u5 u6 ⟨fun _ => ⟨hi, ?_⟩, fun z => absurd rfl z⟩
  rw [hb]
  refine sort_run b _ ?_
  rw [ek]
  rcases F with ⟨f1, f2⟩ | ⟨f1, f2, f3, f4⟩ | ⟨f1, f2, f3, f4⟩
  · rw [f2] at hP
    exact GX12_cuts_90 sz x i 0 u5 u6 k ⟨fun z => absurd rfl z, fun _ => ⟨fun z => absurd f1 z, fun _ => GX12_cuts_197 hM sz x i 0 k 1 ⟨fun z => absurd z (by decide), fun _ => hP⟩⟩⟩
  · rw [f4] at hP
    refine GX12_cuts_90 sz x i 0 u5 u6 k ⟨fun z => absurd rfl z, fun _ => ⟨fun _ => GX12_cuts_112 sz x i 0 k 0 ⟨fun _ => ⟨fun z => by exfalso; omega, fun _ => ⟨fun z => by exfalso; omega, fun _ => ?_⟩⟩, fun z => absurd rfl z⟩, fun z => absurd z f1⟩⟩
    exact GX12_cuts_164 sz x i 0 k 0 (GX12_cuts_197 hM sz x i 0 k 2 ⟨fun z => absurd z (by decide), fun _ => hP⟩)
  · rw [f4] at hP
    have c194 : WP mX12_cuts 194 [some (.inr (some (37, 0))), some (.inl sz), some (.inl x), some (.inl i), some (.inl 0), some (.inl k), some (.inl 0)] [] m hr (zQ1v hr P) := GX12_cuts_194 sz x i 0 k 0 (GX12_cuts_197 hM sz x i 0 k 3 ⟨fun z => absurd z (by decide), fun _ => hP⟩)
    have c170 : WP mX12_cuts 170 [some (.inr (some (37, 0))), some (.inl sz), some (.inl x), some (.inl i), some (.inl 0), some (.inl k), some (.inl 0)] [] m hr (zQ1v hr P) := GX12_cuts_170 sz x i 0 k 0 ⟨fun z => GX12_cuts_183 sz x i 0 k 0 ⟨fun z => absurd rfl z, fun _ => ⟨fun w => by exfalso; omega, fun _ => c194⟩⟩, fun z => ⟨fun _ => c194, fun w => by exfalso; omega⟩⟩
    exact GX12_cuts_90 sz x i 0 u5 u6 k ⟨fun z => absurd rfl z, fun _ => ⟨fun _ => GX12_cuts_112 sz x i 0 k 0 ⟨fun _ => ⟨fun _ => c170, fun _ => ⟨fun _ => c170, fun z => by exfalso; omega⟩⟩, fun z => absurd rfl z⟩, fun z => absurd z f1⟩⟩
theorem sign_ok {m : zI} {hr : zR} (hM : RSm hr) {sz x i ln wd k : Int} {b : Int} (h13 : m 37 0 13 = ln) (hln : 0 ≤ ln ∧ ln ≤ 16) (hi : 0 ≤ i ∧ i < 400) (hb : zand (m 38 0 i) 255 = b) (ek : sgn b = k) (hrw : (ln = 0 ∧ m 37 0 14 = -1) ∨ (0 < ln ∧ m 37 0 14 = wd)) (hx : 0 ≤ x ∧ x ≤ 16) (F : k ≠ -1 ∧ ¬ (0 < ln ∧ wd ≤ x) ∧ ln < 16 ∧ x < 16) (P : zI → Prop) (hP : ∀ u4 u5 u6, WP mX12_cuts 19 [some (.inr (some (37, 0))), some (.inl sz), some (.inl (x + 1)), some (.inl (i + 1)), u4, u5, u6] [] (zup m 39 0 (256 + 16 * ln + x) k) hr (zQ1v hr P)) (u5 u6 : Option zV) : WP mX12_cuts 68 [some (.inr (some (37, 0))), some (.inl sz), some (.inl x), some (.inl i), some (.inl 0), u5, u6] [] m hr (zQ1v hr P) := by
  refine GX12_cuts_68 hM sz x i 0 u5 u6 ⟨fun _ => ⟨hi, ?_⟩, fun z => absurd rfl z⟩
  rw [hb]
  refine sort_run b _ ?_
  rw [ek]
  have c197 : WP mX12_cuts 197 [some (.inr (some (37, 0))), some (.inl sz), some (.inl x), some (.inl i), some (.inl 0), some (.inl k), some (.inl 0)] [] m hr (zQ1v hr P) := by
    refine GX12_cuts_197 hM sz x i 0 k 0 ⟨fun _ => ⟨fun _ => ?_, fun z => absurd rfl z⟩, fun z => absurd z (by decide)⟩
    rw [h13]
    exact ⟨⟨by omega, by omega⟩, ⟨by omega, by omega⟩, ⟨by omega, by omega⟩, by omega, ⟨by omega, by omega⟩, GX12_cuts_270 sz (x + 1) i 0 k 0 ⟨⟨by omega, by omega⟩, hP _ _ _⟩⟩
  have c170 : WP mX12_cuts 170 [some (.inr (some (37, 0))), some (.inl sz), some (.inl x), some (.inl i), some (.inl 0), some (.inl k), some (.inl 0)] [] m hr (zQ1v hr P) := by
    have c183 : WP mX12_cuts 183 [some (.inr (some (37, 0))), some (.inl sz), some (.inl x), some (.inl i), some (.inl 0), some (.inl k), some (.inl 0)] [] m hr (zQ1v hr P) := GX12_cuts_183 sz x i 0 k 0 ⟨fun _ => c197, fun _ => ⟨fun _ => c197, fun z => by exfalso; omega⟩⟩
    exact GX12_cuts_170 sz x i 0 k 0 ⟨fun _ => c183, fun _ => ⟨fun z => by exfalso; omega, fun _ => c183⟩⟩
  exact GX12_cuts_90 sz x i 0 u5 u6 k ⟨fun z => absurd rfl z, fun _ => ⟨fun _ => GX12_cuts_112 sz x i 0 k 0 ⟨fun _ => ⟨fun _ => c170, fun _ => ⟨fun _ => c170, fun z => by exfalso; omega⟩⟩, fun z => absurd rfl z⟩, fun z => absurd z F.1⟩⟩
