def cOb (c : zI) (v : Int) : zI := zup (if c 36 v 4 = -1 then zup (zup c 36 v 2 (c 36 v 2 + 1)) 36 v 3 0 else zup (zup (zup c 36 v 0 (c 36 v 4)) 36 v 2 (c 36 v 2 + 1)) 36 v 3 0) 1 0 10 (c 1 0 10 + 1)
def mOb0 (m : zI) (v : Int) : zI := zup (zup (zup m 71 0 v 0) 70 0 v (m 70 0 v + 1)) 37 0 53 (m 37 0 53 + 1)
def mOb1 (m : zI) (v : Int) : zI := if m 72 0 v = -1 then zup (mOb0 m v) 68 0 v (m 68 0 v + 1) else zup (mOb0 m v) 67 0 v (m 72 0 v)
def mOb (m : zI) (v : Int) : zI := if m 70 0 v + 1 = m 54 0 v then zup (mOb1 m v) 68 0 v 0 else mOb1 m v
theorem cOb_36 (c : zI) (v v' s' : Int) : cOb c v 36 v' s' = if v' = v then (if s' = 3 then 0 else if s' = 2 then c 36 v 2 + 1 else if s' = 0 ∧ c 36 v 4 ≠ -1 then c 36 v 4 else c 36 v s') else c 36 v' s' := by
  unfold cOb
  by_cases hv : v' = v
  · subst hv
    rw [if_pos rfl, zup_k _ _ _ _ _ _ (by decide)]
    by_cases h4 : c 36 v' 4 = -1
    · rw [if_pos h4, zup_at, zup_at]
      simp [h4]
    · rw [if_neg h4, zup_at, zup_at, zup_at]
      simp [h4]
  · rw [if_neg hv, zup_k _ _ _ _ _ _ (by decide)]
    split
    · rw [zup_j _ _ _ _ _ _ hv, zup_j _ _ _ _ _ _ hv]
    · rw [zup_j _ _ _ _ _ _ hv, zup_j _ _ _ _ _ _ hv, zup_j _ _ _ _ _ _ hv]
theorem cOb_k (c : zI) (v : Int) {k : Nat} (h1 : k ≠ 36) (h2 : k ≠ 1) : cOb c v k = c k := by
  unfold cOb
  rw [zup_kf _ _ _ _ h2]
  split
  · rw [zup_kf _ _ _ _ h1, zup_kf _ _ _ _ h1]
  · rw [zup_kf _ _ _ _ h1, zup_kf _ _ _ _ h1, zup_kf _ _ _ _ h1]
theorem cOb_1 (c : zI) (v s' : Int) : cOb c v 1 0 s' = if s' = 10 then c 1 0 10 + 1 else c 1 0 s' := by
  unfold cOb
  rw [zup_at]
  split
  · rfl
  · split
    · rw [zup_k _ _ _ _ _ _ (by decide), zup_k _ _ _ _ _ _ (by decide)]
    · rw [zup_k _ _ _ _ _ _ (by decide), zup_k _ _ _ _ _ _ (by decide), zup_k _ _ _ _ _ _ (by decide)]
theorem mOb_k (m : zI) (v : Int) {k : Nat} (h1 : k ≠ 71) (h2 : k ≠ 70) (h3 : k ≠ 37) (h4 : k ≠ 68) (h5 : k ≠ 67) : mOb m v k = m k := by
  have e0 : mOb0 m v k = m k := by unfold mOb0; rw [zup_kf _ _ _ _ h3, zup_kf _ _ _ _ h2, zup_kf _ _ _ _ h1]
  have e1 : mOb1 m v k = m k := by
    unfold mOb1
    split
    · rw [zup_kf _ _ _ _ h4, e0]
    · rw [zup_kf _ _ _ _ h5, e0]
  unfold mOb
  split
  · rw [zup_kf _ _ _ _ h4, e1]
  · exact e1
theorem mOb_37 (m : zI) (v s' : Int) : mOb m v 37 0 s' = if s' = 53 then m 37 0 53 + 1 else m 37 0 s' := by
  have e0 : mOb0 m v 37 0 s' = if s' = 53 then m 37 0 53 + 1 else m 37 0 s' := by
    unfold mOb0
    rw [zup_at, zup_k _ _ _ _ _ _ (by decide), zup_k _ _ _ _ _ _ (by decide)]
  have e1 : mOb1 m v 37 0 s' = if s' = 53 then m 37 0 53 + 1 else m 37 0 s' := by
    unfold mOb1
    split
    · rw [zup_k _ _ _ _ _ _ (by decide), e0]
    · rw [zup_k _ _ _ _ _ _ (by decide), e0]
  unfold mOb
  split
  · rw [zup_k _ _ _ _ _ _ (by decide), e1]
  · exact e1
theorem mOb_71 (m : zI) (v u : Int) : mOb m v 71 0 u = if u = v then 0 else m 71 0 u := by
  have e0 : mOb0 m v 71 0 u = if u = v then 0 else m 71 0 u := by
    unfold mOb0
    rw [zup_k _ _ _ _ _ _ (by decide), zup_k _ _ _ _ _ _ (by decide), zup_at]
  have e1 : mOb1 m v 71 0 u = if u = v then 0 else m 71 0 u := by
    unfold mOb1
    split
    · rw [zup_k _ _ _ _ _ _ (by decide), e0]
    · rw [zup_k _ _ _ _ _ _ (by decide), e0]
  unfold mOb
  split
  · rw [zup_k _ _ _ _ _ _ (by decide), e1]
  · exact e1
theorem mOb_70 (m : zI) (v u : Int) : mOb m v 70 0 u = if u = v then m 70 0 v + 1 else m 70 0 u := by
  have e0 : mOb0 m v 70 0 u = if u = v then m 70 0 v + 1 else m 70 0 u := by
    unfold mOb0
    rw [zup_k _ _ _ _ _ _ (by decide), zup_at, zup_k _ _ _ _ _ _ (by decide)]
  have e1 : mOb1 m v 70 0 u = if u = v then m 70 0 v + 1 else m 70 0 u := by
    unfold mOb1
    split
    · rw [zup_k _ _ _ _ _ _ (by decide), e0]
    · rw [zup_k _ _ _ _ _ _ (by decide), e0]
  unfold mOb
  split
  · rw [zup_k _ _ _ _ _ _ (by decide), e1]
  · exact e1
theorem mOb_67 (m : zI) (v u : Int) : mOb m v 67 0 u = if u = v ∧ m 72 0 v ≠ -1 then m 72 0 v else m 67 0 u := by
  have e0 : mOb0 m v 67 0 u = m 67 0 u := by
    unfold mOb0
    rw [zup_k _ _ _ _ _ _ (by decide), zup_k _ _ _ _ _ _ (by decide), zup_k _ _ _ _ _ _ (by decide)]
  have e1 : mOb1 m v 67 0 u = if u = v ∧ m 72 0 v ≠ -1 then m 72 0 v else m 67 0 u := by
    unfold mOb1
    by_cases h : m 72 0 v = -1
    · rw [if_pos h, zup_k _ _ _ _ _ _ (by decide), e0]
      simp [h]
    · rw [if_neg h, zup_at, e0]
      simp [h]
  unfold mOb
  split
  · rw [zup_k _ _ _ _ _ _ (by decide), e1]
  · exact e1
theorem mOb_68 (m : zI) (v u : Int) : mOb m v 68 0 u = if u = v then (if m 70 0 v + 1 = m 54 0 v then 0 else if m 72 0 v = -1 then m 68 0 v + 1 else m 68 0 v) else m 68 0 u := by
  have e0 : mOb0 m v 68 0 u = m 68 0 u := by
    unfold mOb0
    rw [zup_k _ _ _ _ _ _ (by decide), zup_k _ _ _ _ _ _ (by decide), zup_k _ _ _ _ _ _ (by decide)]
  have e1 : mOb1 m v 68 0 u = if u = v then (if m 72 0 v = -1 then m 68 0 v + 1 else m 68 0 v) else m 68 0 u := by
    unfold mOb1
    by_cases h : m 72 0 v = -1
    · rw [if_pos h, zup_at, e0]
      simp [h]
    · rw [if_neg h, zup_k _ _ _ _ _ _ (by decide), e0]
      by_cases hu : u = v
      · subst hu; simp [h]
      · simp [hu]
  unfold mOb
  by_cases h : m 70 0 v + 1 = m 54 0 v
  · rw [if_pos h, zup_at, e1]
    by_cases hu : u = v
    · simp [hu, h]
    · simp [hu]
  · rw [if_neg h, e1]
    by_cases hu : u = v
    · simp [hu, h]
    · simp [hu]
