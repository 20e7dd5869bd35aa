/-- a step of the reference's trip -/
def MS (m m' : zI) (v t0 i p q : Int) : Prop := (∀ z, z ≠ 51 → z ≠ 54 → z ≠ 55 → z ≠ 56 → m' z = m z) ∧ (∀ z, m' 51 0 z = if z = 301 * v + i + 1 then q / 3 else m 51 0 z) ∧
  ((q = p ∧ m' 54 = m 54 ∧ m' 55 = m 55 ∧ m' 56 = m 56) ∨
   (q ≠ p ∧ (∀ u, m' 54 0 u = if u = v then m 54 0 v + 1 else m 54 0 u) ∧ (∀ z, m' 55 0 z = if z = 301 * v + (m 54 0 v + 1) then (if q / 3 = p / 3 then -1 else q / 3) else m 55 0 z) ∧ (∀ z, m' 56 0 z = if z = 301 * v + (m 54 0 v + 1) then t0 + i + 1 else m 56 0 z)))
def PR (v t0 cn i p : Int) (c m : zI) : Prop :=
  c 25 v 3 = t0 ∧ c 25 v 4 = i ∧ c 25 v 5 = m 54 0 v ∧ 0 ≤ m 54 0 v ∧ m 54 0 v ≤ i ∧
  (∀ j, 1 ≤ j → j ≤ m 54 0 v → (m 55 0 (301 * v + j) = -1 ∨ c 26 v (m 56 0 (301 * v + j) - t0) = m 55 0 (301 * v + j)) ∧ c 28 v j = m 56 0 (301 * v + j) ∧ -1 ≤ m 55 0 (301 * v + j) ∧ m 55 0 (301 * v + j) < cn ∧ (m 55 0 (301 * v + j) = -1 ↔ (j = c 25 v 6 ∨ j = c 25 v 7)) ∧ t0 + 1 ≤ m 56 0 (301 * v + j) ∧ m 56 0 (301 * v + j) ≤ t0 + i) ∧
  (∀ j j', 1 ≤ j → j < j' → j' ≤ m 54 0 v → m 56 0 (301 * v + j) < m 56 0 (301 * v + j')) ∧
  ((p % 3 = 0 ∧ c 25 v 6 = 0 ∧ c 25 v 7 = 0) ∨ (p % 3 = 1 ∧ 1 ≤ c 25 v 6 ∧ c 25 v 6 ≤ m 54 0 v ∧ c 25 v 7 = 0) ∨ (p % 3 = 2 ∧ 1 ≤ c 25 v 6 ∧ c 25 v 6 < c 25 v 7 ∧ c 25 v 7 ≤ m 54 0 v)) ∧
  (∀ j, 0 ≤ j → j ≤ i → c 26 v j = m 51 0 (301 * v + j) ∧ 0 ≤ c 26 v j ∧ c 26 v j < cn) ∧ c 26 v i = p / 3
theorem PR.step {v t0 cn i p q : Int} {c c' m m' : zI} (h : PR v t0 cn i p c m) (C : CF c c' v i p q) (M : MS m m' v t0 i p q) (hi : 0 ≤ i) (ht : 0 ≤ t0) (hq : 0 ≤ q / 3 ∧ q / 3 < cn) (hst : q = p ∨ (q / 3 ≠ p / 3 ∧ q % 3 = p % 3) ∨ (q / 3 = p / 3 ∧ q % 3 = p % 3 + 1)) : PR v t0 cn (i + 1) q c' m' := by
  obtain ⟨h1, h2, h3, h4, h5, h6, h7, h8, h9, h10⟩ := h
  obtain ⟨c1, c2, c3, c4⟩ := C
  obtain ⟨m1, m2, m3⟩ := M
  have trip : ∀ j, 0 ≤ j → j ≤ i + 1 → c' 26 v j = m' 51 0 (301 * v + j) ∧ 0 ≤ c' 26 v j ∧ c' 26 v j < cn := by
    intro j j0 j1
    rw [c3 j, m2]
    by_cases z : j = i + 1
    · rw [if_pos z, if_pos (by omega)]
      exact ⟨rfl, hq⟩
    · rw [if_neg z, if_neg (by omega)]
      exact h9 j j0 (by omega)
  have here : c' 26 v (i + 1) = q / 3 := by rw [c3, if_pos rfl]
  rcases c4 with ⟨e, s25, s28⟩ | ⟨e, s28, s25⟩
  · rcases m3 with ⟨-, n54, n55, n56⟩ | ⟨e', -⟩
    · unfold PR
      simp only [s25, n54, n55, n56, s28]
      refine ⟨?_, ?_, ?_, h4, by omega, fun j j0 j1 => ?_, h7, ?_, trip, here⟩
      · rw [if_neg (by decide)]; exact h1
      · rw [if_pos trivial]
      · rw [if_neg (by decide)]; exact h3
      · rw [if_neg (by decide), if_neg (by decide)]
        obtain ⟨y1, y2, y3, y4, y5, y6, y7⟩ := h6 j j0 j1
        refine ⟨y1.imp id (fun z => ?_), y2, y3, y4, y5, y6, by omega⟩
        rw [c3, if_neg (by omega)]
        exact z
      · rw [if_neg (by decide), if_neg (by decide), e]
        exact h8
    · exact absurd e e'
  · rcases m3 with ⟨e', -⟩ | ⟨-, n54, n55, n56⟩
    · exact absurd e' e
    · have a54 : m' 54 0 v = m 54 0 v + 1 := by rw [n54, if_pos rfl]
      have i55 : ∀ j, m' 55 0 (301 * v + j) = if j = m 54 0 v + 1 then (if q / 3 = p / 3 then -1 else q / 3) else m 55 0 (301 * v + j) := by
        intro j
        rw [n55]
        by_cases z : j = m 54 0 v + 1
        · rw [if_pos (by omega), if_pos z]
        · rw [if_neg (by omega), if_neg z]
      have i56 : ∀ j, m' 56 0 (301 * v + j) = if j = m 54 0 v + 1 then t0 + i + 1 else m 56 0 (301 * v + j) := by
        intro j
        rw [n56]
        by_cases z : j = m 54 0 v + 1
        · rw [if_pos (by omega), if_pos z]
        · rw [if_neg (by omega), if_neg z]
      have k4 : c' 25 v 3 = t0 := by rw [s25, if_neg (by decide), if_neg (by decide), if_neg (fun y => by have := y.2; split at this <;> omega)]; exact h1
      have k5 : c' 25 v 4 = i + 1 := by rw [s25, if_pos rfl]
      have k6 : c' 25 v 5 = m 54 0 v + 1 := by rw [s25, if_neg (by decide), if_pos rfl, h3]
      have k7 : c' 25 v 6 = if q / 3 = p / 3 ∧ q % 3 = 1 then m 54 0 v + 1 else c 25 v 6 := by
        rw [s25, if_neg (by decide), if_neg (by decide), h3]
        by_cases z : q / 3 = p / 3 ∧ q % 3 = 1
        · rw [if_pos z, if_pos ⟨z.1, by rw [if_pos z.2]⟩]
        · rw [if_neg z, if_neg]
          rintro ⟨y1, y2⟩
          split at y2
          · exact z ⟨y1, by assumption⟩
          · omega
      have k8 : c' 25 v 7 = if q / 3 = p / 3 ∧ q % 3 ≠ 1 then m 54 0 v + 1 else c 25 v 7 := by
        rw [s25, if_neg (by decide), if_neg (by decide), h3]
        by_cases z : q / 3 = p / 3 ∧ q % 3 ≠ 1
        · rw [if_pos z, if_pos ⟨z.1, by rw [if_neg z.2]⟩]
        · rw [if_neg z, if_neg]
          rintro ⟨y1, y2⟩
          split at y2
          · omega
          · exact z ⟨y1, by assumption⟩
      have hst' : (q / 3 ≠ p / 3 ∧ q % 3 = p % 3) ∨ (q / 3 = p / 3 ∧ q % 3 = p % 3 + 1) := hst.resolve_left e
      have S : (c' 25 v 6 = c 25 v 6 ∨ c' 25 v 6 = m 54 0 v + 1) ∧ (c' 25 v 7 = c 25 v 7 ∨ c' 25 v 7 = m 54 0 v + 1) ∧ (c' 25 v 6 = m 54 0 v + 1 ∨ c' 25 v 7 = m 54 0 v + 1 ↔ q / 3 = p / 3) ∧ ((q % 3 = 0 ∧ c' 25 v 6 = 0 ∧ c' 25 v 7 = 0) ∨ (q % 3 = 1 ∧ 1 ≤ c' 25 v 6 ∧ c' 25 v 6 ≤ m 54 0 v + 1 ∧ c' 25 v 7 = 0) ∨ (q % 3 = 2 ∧ 1 ≤ c' 25 v 6 ∧ c' 25 v 6 < c' 25 v 7 ∧ c' 25 v 7 ≤ m 54 0 v + 1)) ∧ (c' 25 v 6 ≠ c 25 v 6 → c 25 v 6 = 0) ∧ (c' 25 v 7 ≠ c 25 v 7 → c 25 v 7 = 0) := by
        have q3 : 0 ≤ q % 3 ∧ q % 3 < 3 := by omega
        rw [k7, k8]
        rcases hst' with ⟨w1, w2⟩ | ⟨w1, w2⟩
        · rw [if_neg (fun y => w1 y.1), if_neg (fun y => w1 y.1)]
          omega
        · by_cases w3 : q % 3 = 1
          · rw [if_pos ⟨w1, w3⟩, if_neg (fun y => y.2 w3)]
            omega
          · rw [if_neg (fun y => w3 y.2), if_pos ⟨w1, w3⟩]
            omega
      obtain ⟨S1, S2, S3, S4, S5, S6⟩ := S
      unfold PR
      rw [k4, k5, k6, a54]
      refine ⟨rfl, rfl, rfl, by omega, by omega, fun j j0 j1 => ?_, fun j j' j0 j1 j2 => ?_, S4, trip, here⟩
      · rw [s28, i55, i56, h3]
        by_cases z : j = m 54 0 v + 1
        · rw [if_pos z, if_pos z, if_pos z, h1]
          refine ⟨?_, by omega, ?_, ?_, ?_, by omega, by omega⟩
          · by_cases w : q / 3 = p / 3
            · rw [if_pos w]; exact Or.inl rfl
            · rw [if_neg w, show t0 + i + 1 - t0 = i + 1 by omega]; exact Or.inr here
          · split <;> omega
          · split <;> omega
          · rw [z]
            constructor
            · intro y
              by_cases w : q / 3 = p / 3
              · exact (S3.mpr w).elim (fun u => Or.inl u.symm) (fun u => Or.inr u.symm)
              · rw [if_neg w] at y; omega
            · intro y
              rw [if_pos (S3.mp (y.elim (fun u => Or.inl u.symm) (fun u => Or.inr u.symm)))]
        · rw [if_neg z, if_neg z, if_neg z]
          obtain ⟨y1, y2, y3, y4, y5, y6, y7⟩ := h6 j j0 (by omega)
          refine ⟨y1.imp id (fun w => by rw [c3, if_neg (by omega)]; exact w), y2, y3, y4, y5.trans ?_, y6, by omega⟩
          constructor
          · rintro (w | w)
            · by_cases u : c' 25 v 6 = c 25 v 6
              · exact Or.inl (w.trans u.symm)
              · have := S5 u; omega
            · by_cases u : c' 25 v 7 = c 25 v 7
              · exact Or.inr (w.trans u.symm)
              · have := S6 u; omega
          · rintro (w | w)
            · rcases S1 with u | u
              · exact Or.inl (w.trans u)
              · omega
            · rcases S2 with u | u
              · exact Or.inr (w.trans u)
              · omega
      · rw [i56, i56, if_neg (show ¬ j = m 54 0 v + 1 by omega)]
        by_cases z : j' = m 54 0 v + 1
        · rw [if_pos z]
          have := (h6 j j0 (by omega)).2.2.2.2.2.2
          omega
        · rw [if_neg z]
          exact h7 j j' j0 j1 (by omega)
/-- at the end of a trip the cells of its acts are those read off it -/
theorem PR.ac {v t0 cn i p : Int} {c m : zI} (h : PR v t0 cn i p c m) (hp : c 25 v 2 = p / 3) (ht : 0 ≤ t0) : c 25 v 3 = t0 ∧ c 25 v 4 = i ∧ c 25 v 5 = m 54 0 v ∧ 0 ≤ m 54 0 v ∧ m 54 0 v ≤ i ∧
  (∀ j, 1 ≤ j → j ≤ m 54 0 v → aC (c 25) (c 26) (c 28) v j = m 55 0 (301 * v + j) ∧ c 28 v j = m 56 0 (301 * v + j) ∧ -1 ≤ m 55 0 (301 * v + j) ∧ m 55 0 (301 * v + j) < cn ∧ (m 55 0 (301 * v + j) = -1 ↔ (j = c 25 v 6 ∨ j = c 25 v 7)) ∧ 0 ≤ m 56 0 (301 * v + j) ∧ m 56 0 (301 * v + j) ≤ t0 + i) ∧
  (∀ j j', 1 ≤ j → j < j' → j' ≤ m 54 0 v → m 56 0 (301 * v + j) < m 56 0 (301 * v + j')) ∧
  ((p % 3 = 0 ∧ c 25 v 6 = 0 ∧ c 25 v 7 = 0) ∨ (p % 3 = 1 ∧ 1 ≤ c 25 v 6 ∧ c 25 v 6 ≤ m 54 0 v ∧ c 25 v 7 = 0) ∨ (p % 3 = 2 ∧ 1 ≤ c 25 v 6 ∧ c 25 v 6 < c 25 v 7 ∧ c 25 v 7 ≤ m 54 0 v)) ∧
  (∀ j, 0 ≤ j → j ≤ i → c 26 v j = m 51 0 (301 * v + j) ∧ 0 ≤ c 26 v j ∧ c 26 v j < cn) := by
  obtain ⟨h1, h2, h3, h4, h5, h6, h7, h8, h9, h10⟩ := h
  refine ⟨h1, h2, h3, h4, h5, fun j j0 j1 => ?_, h7, h8, h9⟩
  obtain ⟨y1, y2, y3, y4, y5, y6, y7⟩ := h6 j j0 j1
  refine ⟨?_, y2, y3, y4, y5, by omega, y7⟩
  unfold aC
  by_cases q : j = c 25 v 6 ∨ j = c 25 v 7
  · rw [if_pos q, y5.mpr q]
  · have y1 := y1.resolve_left (fun z => q (y5.mp z))
    rw [if_neg q, y2, h1, h2]
    by_cases z : 0 < m 56 0 (301 * v + j) - t0 ∧ m 56 0 (301 * v + j) - t0 < i
    · rw [if_pos z]; exact y1
    · rw [if_neg z, hp, ← h10, ← y1, show m 56 0 (301 * v + j) - t0 = i by omega]
/-- what following keeps of the reference -/
def MF (v : Int) (m m' : zI) : Prop := (∀ z, z ≠ 51 → z ≠ 52 → z ≠ 53 → z ≠ 54 → z ≠ 55 → z ≠ 56 → m' z = m z) ∧ (∀ u, u ≠ v → m' 52 0 u = m 52 0 u ∧ m' 53 0 u = m 53 0 u ∧ m' 54 0 u = m 54 0 u) ∧ (∀ z, (z < 301 * v ∨ 301 * v + 301 ≤ z) → m' 51 0 z = m 51 0 z ∧ m' 55 0 z = m 55 0 z ∧ m' 56 0 z = m 56 0 z)
theorem MF.step {v t0 i p q : Int} {m m1 m2 : zI} (h : MF v m m1) (M : MS m1 m2 v t0 i p q) (hi : 0 ≤ i ∧ i < 300) (ha : 0 ≤ m1 54 0 v ∧ m1 54 0 v < 300) : MF v m m2 := by
  obtain ⟨f1, f2, f3⟩ := h
  obtain ⟨s1, s2, s3⟩ := M
  refine ⟨fun z a b c d e f => (s1 z a d e f).trans (f1 z a b c d e f), fun u hu => ?_, fun z hz => ?_⟩
  · obtain ⟨x1, x2, x3⟩ := f2 u hu
    rw [s1 52 (by decide) (by decide) (by decide) (by decide), s1 53 (by decide) (by decide) (by decide) (by decide)]
    refine ⟨x1, x2, ?_⟩
    rcases s3 with ⟨-, e, -⟩ | ⟨-, e, -⟩
    · rw [e]; exact x3
    · rw [e, if_neg hu]; exact x3
  · obtain ⟨x1, x2, x3⟩ := f3 z hz
    rw [s2, if_neg (by omega)]
    refine ⟨x1, ?_⟩
    rcases s3 with ⟨-, -, e, e'⟩ | ⟨-, -, e, e'⟩
    · rw [e, e']; exact ⟨x2, x3⟩
    · rw [e, e', if_neg (by omega), if_neg (by omega)]; exact ⟨x2, x3⟩
section ZP
variable {ln wd vn v a b t0 : Int} {k pk tr tb te : Int → Int}
theorem tAt_other {m' : zI} {u t : Int} (hv : 0 ≤ v) (hu : 0 ≤ u) (hne : u ≠ v) (hte : te u = -1 ∨ (0 ≤ tb u ∧ tb u ≤ 600 ∧ tb u ≤ te u ∧ te u ≤ tb u + 300)) (e52 : m' 52 0 u = tb u) (e53 : m' 53 0 u = te u) (e51 : ∀ z, (z < 301 * v ∨ 301 * v + 301 ≤ z) → m' 51 0 z = tr z) : tAt pk (m' 51 0) (m' 52 0) (m' 53 0) u t = tAt pk tr tb te u t := by
  unfold tAt
  rw [e52, e53]
  by_cases q : te u = -1 ∨ t < tb u ∨ te u ≤ t
  · rw [if_pos q, if_pos q]
  · rw [if_neg q, if_neg q, e51 _ (by omega)]
theorem ME.follow {m m' : zI} (E : ME m ln wd vn v a b t0 k pk tr tb te) (F : MF v m m') {N : Nat} (hN : N ≤ 300) (e52 : m' 52 0 v = t0) (e53 : m' 53 0 v = t0 + N) : ME m' ln wd vn v a b t0 k pk (m' 51 0) (m' 52 0) (m' 53 0) ∧ ∀ t here there, clr vn pk (m' 51 0) (m' 52 0) (m' 53 0) v t here there ↔ clr vn pk tr tb te v t here there := by
  obtain ⟨⟨e5, e6, e10⟩, ⟨ek, ep, e51, e52', e53'⟩, hvn, hv, ht0, Y, hte⟩ := E
  obtain ⟨f1, f2, f3⟩ := F
  have g37 := f1 37 (by decide) (by decide) (by decide) (by decide) (by decide) (by decide)
  have g39 := f1 39 (by decide) (by decide) (by decide) (by decide) (by decide) (by decide)
  have g42 := f1 42 (by decide) (by decide) (by decide) (by decide) (by decide) (by decide)
  refine ⟨⟨by rw [g37]; exact ⟨e5, e6, e10⟩, ⟨by rw [g39]; exact ek, by rw [g42]; exact ep, rfl, rfl, rfl⟩, hvn, hv, ht0, Y, fun u u0 u1 => ?_⟩, fun t here there => ?_⟩
  · by_cases q : u = v
    · rw [q, e52, e53]; exact Or.inr ⟨by omega, by omega, by omega, by omega⟩
    · rw [(f2 u q).1, (f2 u q).2.1, e52', e53']; exact hte u u0 u1
  · have key : ∀ u t, 0 ≤ u → u < vn → u ≠ v → tAt pk (m' 51 0) (m' 52 0) (m' 53 0) u t = tAt pk tr tb te u t := fun u t u0 u1 hne =>
      tAt_other hv.1 u0 hne (hte u u0 u1) (by rw [(f2 u hne).1, e52']) (by rw [(f2 u hne).2.1, e53']) (fun z hz => by rw [(f3 z hz).1, e51])
    unfold clr
    constructor
    · intro h u u0 u1 hne
      have := h u u0 u1 hne
      rw [key u t u0 u1 hne, key u (t + 1) u0 u1 hne] at this
      exact this
    · intro h u u0 u1 hne
      rw [key u t u0 u1 hne, key u (t + 1) u0 u1 hne]
      exact h u u0 u1 hne
theorem fol_461 {m1 : zI} {tr' tb' te' : Int → Int} (E1 : ME m1 ln wd vn v a b t0 k pk tr' tb' te') (hcl : ∀ t here there, clr vn pk tr' tb' te' v t here there ↔ clr vn pk tr tb te v t here there) {i N : Nat} (hN : i < N ∧ N ≤ 300) {p q s0 a5 : Int} {L : Int → Prop} (hp : 0 ≤ p ∧ p < 3 * (ln * wd)) (hL : ∀ q, 0 ≤ q → q < 768 → (m1 58 0 (768 * ((i : Int) + 1) + q) ≠ 0 ↔ L q)) (hc : ∀ q', L q' → clr vn pk tr tb te v (t0 + i) (p / 3) (q' / 3)) (h : fstc ln wd k pk v a b L p q s0) {r : zR} (hM : RSm r) (P : Int → zI → Prop)
    (K : ∀ u11, WP mX12_finds 461 [some (.inr (some (37, 0))), some (.inl v), some (.inl a), some (.inl b), some (.inl t0), some (.inl a5), some (.inl N), some (.inl p), some (.inl i), some (.inl q), some (.inl (-1)), u11] [] m1 r (zQ1i r P)) :
    ∀ (n : Nat) (s a9 : Int) (u11 : Option zV), s + 1 = n → s ≤ 4 → (s < s0 → a9 = q) → WP mX12_finds 461 [some (.inr (some (37, 0))), some (.inl v), some (.inl a), some (.inl b), some (.inl t0), some (.inl a5), some (.inl N), some (.inl p), some (.inl i), some (.inl a9), some (.inl s), u11] [] m1 r (zQ1i r P) := by
  have Y := E1.2.2.2.2.2.1
  have y2 := yd_256 Y
  have ht0 := E1.2.2.2.2.1
  obtain ⟨hs0, e0, hq1, hqL, hno⟩ := h
  intro n
  induction n with
  | zero =>
    intro s a9 u11 hn hs h9
    have e : s = -1 := by omega
    subst e
    rw [h9 (by omega)]
    exact K u11
  | succ n ih =>
    intro s a9 u11 hn hs h9
    have zs : zInR (s + (-1)) := ⟨by omega, by omega⟩
    have bd := ldTo_bd (p := p) (s := s) Y hp.1 (by omega) (by omega)
    obtain ⟨x, ex⟩ : ∃ x, x = ldTo ln wd k a b (pk v) p s := ⟨_, rfl⟩
    have ld := leadsTo_run (p := p) (s := s) hM E1 (by omega) (by omega)
    rw [← ex] at bd ld
    have nx : ∀ a9', (s + (-1) < s0 → a9' = q) → ∀ u11, WP mX12_finds 461 [some (.inr (some (37, 0))), some (.inl v), some (.inl a), some (.inl b), some (.inl t0), some (.inl a5), some (.inl N), some (.inl p), some (.inl i), some (.inl a9'), some (.inl (s + (-1))), u11] [] m1 r (zQ1i r P) := fun a9' h9' u11 => ih (s + (-1)) a9' u11 (by omega) (by omega) h9'
    by_cases q1 : x = -1
    · refine GX12_finds_461 hM v a b t0 a5 N p i a9 s u11 ⟨fun z => absurd z (by omega), fun _ => ld _ ⟨fun _ => ⟨zs, nx a9 (fun z => ?_) _⟩, fun z => absurd q1 z⟩⟩
      by_cases w : s = s0
      · exfalso
        rw [w, e0] at ex
        exact hq1 (ex.symm.trans q1)
      · exact h9 (by omega)
    · have hb := hL x (by omega) (by omega)
      by_cases q2 : L x
      · have q3 := (hcl (t0 + i) (p / 3) (x / 3)).mpr (hc x q2)
        obtain ⟨y, y1, y2'⟩ := isClear_run (t := t0 + i) (here := p / 3) (there := x / 3) hM E1 (by omega)
        have ey : y ≠ 0 := by
          rcases y1 with ⟨w, -⟩ | ⟨-, w⟩
          · omega
          · exact absurd q3 w
        refine GX12_finds_461 hM v a b t0 a5 N p i a9 s u11 ⟨fun z => absurd z (by omega), fun _ => ld _ ⟨fun z => absurd z q1, fun _ => ⟨⟨by omega, by omega⟩, ⟨by omega, by omega⟩, ⟨by omega, by omega⟩, by omega, fun z => absurd z (hb.mpr q2), fun _ => ⟨⟨by omega, by omega⟩, hp.1, by omega, y2' _ ⟨fun z => absurd z ey, fun _ => ⟨zs, nx x (fun z => ?_) _⟩⟩⟩⟩⟩⟩
        by_cases w : s < s0
        · exfalso
          rcases hno s (by omega) w with u | u
          · exact q1 (ex.trans u)
          · rw [← ex] at u; exact u q2
        · have : s = s0 := by omega
          rw [this, e0] at ex
          exact ex
      · have hz : m1 58 0 (768 * ((i : Int) + 1) + x) = 0 := by
          by_cases z : m1 58 0 (768 * ((i : Int) + 1) + x) = 0
          · exact z
          · exact absurd (hb.mp z) q2
        refine GX12_finds_461 hM v a b t0 a5 N p i a9 s u11 ⟨fun z => absurd z (by omega), fun _ => ld _ ⟨fun z => absurd z q1, fun _ => ⟨⟨by omega, by omega⟩, ⟨by omega, by omega⟩, ⟨by omega, by omega⟩, by omega, fun _ => ⟨zs, nx a9 (fun z => ?_) _⟩, fun z => absurd hz z⟩⟩⟩
        by_cases w : s = s0
        · exfalso
          rw [w, e0] at ex
          rw [ex] at q2
          exact q2 hqL
        · exact h9 (by omega)
/-- the reference's next step -/
theorem mfol {m m1 : zI} (E : ME m ln wd vn v a b t0 k pk tr tb te) (F : MF v m m1) {i N : Nat} (hN : i < N ∧ N ≤ 300) (e52 : m1 52 0 v = t0) (e53 : m1 53 0 v = t0 + N) (ha : 0 ≤ m1 54 0 v ∧ m1 54 0 v ≤ i) {p q s0 a5 : Int} {L : Int → Prop} (hp : 0 ≤ p ∧ p < 3 * (ln * wd)) (hL : ∀ q, 0 ≤ q → q < 768 → (m1 58 0 (768 * ((i : Int) + 1) + q) ≠ 0 ↔ L q)) (hc : ∀ q', L q' → clr vn pk tr tb te v (t0 + i) (p / 3) (q' / 3)) (h : fstc ln wd k pk v a b L p q s0) :
    ∃ m2, MS m1 m2 v t0 i p q ∧ ∀ r, RSm r → ∀ (P : Int → zI → Prop), (∀ u9 u10 u11, WP mX12_finds 448 [some (.inr (some (37, 0))), some (.inl v), some (.inl a), some (.inl b), some (.inl t0), some (.inl a5), some (.inl N), some (.inl q), some (.inl ((i : Int) + 1)), u9, u10, u11] [] m2 r (zQ1i r P)) →
      ∀ u9 u10 u11, WP mX12_finds 448 [some (.inr (some (37, 0))), some (.inl v), some (.inl a), some (.inl b), some (.inl t0), some (.inl a5), some (.inl N), some (.inl p), some (.inl i), u9, u10, u11] [] m1 r (zQ1i r P) := by
  obtain ⟨E1, hcl⟩ := E.follow F hN.2 e52 e53
  have Y := E.2.2.2.2.2.1
  have y2 := yd_256 Y
  have ht0 := E.2.2.2.2.1
  have hv := E.2.2.2.1
  have hvn := E.2.2.1
  have hq0 : 0 ≤ q ∧ q < 3 * (ln * wd) := by
    rcases ldTo_bd (p := p) (s := s0) Y hp.1 (by omega) h.1 with z | z
    · rw [h.2.1] at z; exact absurd z h.2.2.1
    · rw [h.2.1] at z; exact z
  have k57 : ∀ (x s : Int) (z : zI), (fun q : Nat => q) 0 = 0 := fun _ _ _ => rfl
  by_cases qp : q = p
  · refine ⟨zup m1 51 0 ((301 * v + i) + 1) (q / 3), ⟨fun z z1 z2 z3 z4 => zup_kf _ _ _ _ z1, fun z => zup_at _ _ _ _ _ _, Or.inl ⟨qp, zup_kf _ _ _ _ (by decide), zup_kf _ _ _ _ (by decide), zup_kf _ _ _ _ (by decide)⟩⟩, fun r hM P hP u9 u10 u11 => ?_⟩
    refine GX12_finds_448 v a b t0 a5 N p i u9 u10 u11 ⟨fun z => absurd z (by omega), fun _ => ?_⟩
    refine fol_461 E1 hcl hN hp hL hc h hM P (fun u11 => ?_) 5 4 (-1) u11 (by omega) (by omega) (fun z => absurd z (by have := h.1; omega))
    exact GX12_finds_461 hM v a b t0 a5 N p i q (-1) u11 ⟨fun _ => ⟨fun _ => ⟨⟨by omega, by omega⟩, ⟨by omega, by omega⟩, ⟨by omega, by omega⟩, hq0.1, by omega, ⟨by omega, by omega⟩, hP _ _ _⟩, fun z => absurd qp z⟩, fun z => absurd z (by omega)⟩
  · by_cases qc : q / 3 = p / 3
    · refine ⟨zup (zup (zup (zup m1 54 0 v (m1 54 0 v + 1)) 55 0 (301 * v + (m1 54 0 v + 1)) (-1)) 56 0 (301 * v + (m1 54 0 v + 1)) ((t0 + i) + 1)) 51 0 ((301 * v + i) + 1) (q / 3), ⟨fun z z1 z2 z3 z4 => ?_, fun z => ?_, Or.inr ⟨qp, fun u => ?_, fun z => ?_, fun z => ?_⟩⟩, fun r hM P hP u9 u10 u11 => ?_⟩
      · rw [zup_kf _ _ _ _ z1, zup_kf _ _ _ _ z4, zup_kf _ _ _ _ z3, zup_kf _ _ _ _ z2]
      · rw [zup_at, zup_kf _ _ _ _ (by decide), zup_kf _ _ _ _ (by decide), zup_kf _ _ _ _ (by decide)]
      · rw [zup_kf _ _ _ _ (by decide), zup_kf _ _ _ _ (by decide), zup_kf _ _ _ _ (by decide), zup_at]
      · rw [zup_kf _ _ _ _ (by decide), zup_kf _ _ _ _ (by decide), zup_at, zup_kf _ _ _ _ (by decide), if_pos qc]
      · rw [zup_kf _ _ _ _ (by decide), zup_at, zup_kf _ _ _ _ (by decide), zup_kf _ _ _ _ (by decide)]
      · refine GX12_finds_448 v a b t0 a5 N p i u9 u10 u11 ⟨fun z => absurd z (by omega), fun _ => ?_⟩
        refine fol_461 E1 hcl hN hp hL hc h hM P (fun u11 => ?_) 5 4 (-1) u11 (by omega) (by omega) (fun z => absurd z (by have := h.1; omega))
        exact GX12_finds_461 hM v a b t0 a5 N p i q (-1) u11 ⟨fun _ => ⟨fun z => absurd z qp, fun _ => ⟨by omega, ⟨by omega, by omega⟩, by omega, ⟨by omega, by omega⟩, by omega, ⟨by omega, by omega⟩, hq0.1, hp.1, fun z => absurd qc z, fun _ => ⟨by omega, ⟨by omega, by omega⟩, by omega, ⟨by omega, by omega⟩, ⟨by omega, by omega⟩, ⟨by omega, by omega⟩, by omega, ⟨by omega, by omega⟩, ⟨by omega, by omega⟩, ⟨by omega, by omega⟩, hq0.1, by omega, ⟨by omega, by omega⟩, hP _ _ _⟩⟩⟩, fun z => absurd z (by omega)⟩
    · refine ⟨zup (zup (zup (zup m1 54 0 v (m1 54 0 v + 1)) 55 0 (301 * v + (m1 54 0 v + 1)) (q / 3)) 56 0 (301 * v + (m1 54 0 v + 1)) ((t0 + i) + 1)) 51 0 ((301 * v + i) + 1) (q / 3), ⟨fun z z1 z2 z3 z4 => ?_, fun z => ?_, Or.inr ⟨qp, fun u => ?_, fun z => ?_, fun z => ?_⟩⟩, fun r hM P hP u9 u10 u11 => ?_⟩
      · rw [zup_kf _ _ _ _ z1, zup_kf _ _ _ _ z4, zup_kf _ _ _ _ z3, zup_kf _ _ _ _ z2]
      · rw [zup_at, zup_kf _ _ _ _ (by decide), zup_kf _ _ _ _ (by decide), zup_kf _ _ _ _ (by decide)]
      · rw [zup_kf _ _ _ _ (by decide), zup_kf _ _ _ _ (by decide), zup_kf _ _ _ _ (by decide), zup_at]
      · rw [zup_kf _ _ _ _ (by decide), zup_kf _ _ _ _ (by decide), zup_at, zup_kf _ _ _ _ (by decide), if_neg qc]
      · rw [zup_kf _ _ _ _ (by decide), zup_at, zup_kf _ _ _ _ (by decide), zup_kf _ _ _ _ (by decide)]
      · refine GX12_finds_448 v a b t0 a5 N p i u9 u10 u11 ⟨fun z => absurd z (by omega), fun _ => ?_⟩
        refine fol_461 E1 hcl hN hp hL hc h hM P (fun u11 => ?_) 5 4 (-1) u11 (by omega) (by omega) (fun z => absurd z (by have := h.1; omega))
        exact GX12_finds_461 hM v a b t0 a5 N p i q (-1) u11 ⟨fun _ => ⟨fun z => absurd z qp, fun _ => ⟨by omega, ⟨by omega, by omega⟩, by omega, ⟨by omega, by omega⟩, by omega, ⟨by omega, by omega⟩, hq0.1, hp.1, fun _ => ⟨hq0.1, by omega, ⟨by omega, by omega⟩, by omega, ⟨by omega, by omega⟩, ⟨by omega, by omega⟩, ⟨by omega, by omega⟩, by omega, ⟨by omega, by omega⟩, ⟨by omega, by omega⟩, ⟨by omega, by omega⟩, hq0.1, by omega, ⟨by omega, by omega⟩, hP _ _ _⟩, fun z => absurd z qc⟩⟩, fun z => absurd z (by omega)⟩
end ZP
