/-! runs: from this state the method comes to that one -/
def R0i (y : zM) (vs : List zV) (hi : zI) (hr : zR) (x : Int) : Prop := ∀ P : Int → Prop, P x → W0i y vs hi hr P
def R0r (y : zM) (vs : List zV) (hi : zI) (hr : zR) (x : Option (Nat × Int)) : Prop := ∀ P : Option (Nat × Int) → Prop, P x → W0r y vs hi hr P
def R1i (y : zM) (vs : List zV) (hi : zI) (hr : zR) (x : Int) (hi' : zI) : Prop := ∀ P : Int → zI → Prop, P x hi' → W1i y vs hi hr P
def R1v (y : zM) (vs : List zV) (hi : zI) (hr : zR) (hi' : zI) : Prop := ∀ P : zI → Prop, P hi' → W1v y vs hi hr P
def R2i (y : zM) (vs : List zV) (hi : zI) (hr : zR) (x : Int) (hi' : zI) (hr' : zR) : Prop := ∀ P : Int → zI → zR → Prop, P x hi' hr' → W2i y vs hi hr P
def R2v (y : zM) (vs : List zV) (hi : zI) (hr : zR) (hi' : zI) (hr' : zR) : Prop := ∀ P : zI → zR → Prop, P hi' hr' → W2v y vs hi hr P
/-- kinds apart -/
theorem zup_kf (hi : zI) {k k' : Nat} (j s x : Int) (h : k' ≠ k) : zup hi k j s x k' = hi k' := by
  funext j' s'
  simp [zup, h]
theorem zup_jf (hi : zI) {k : Nat} {j j' : Int} (s x : Int) (h : j' ≠ j) : zup hi k j s x k j' = hi k j' := by
  funext s'
  simp [zup, h]
theorem zup_at (hi : zI) (k : Nat) (j s x s' : Int) : zup hi k j s x k j s' = if s' = s then x else hi k j s' := by
  simp [zup]
theorem zup_v (hi : zI) (k : Nat) (j s x : Int) (j' s' : Int) : zup hi k j s x k j' s' = if j' = j ∧ s' = s then x else hi k j' s' := by
  simp [zup]
theorem zupR_kf (hr : zR) {k k' : Nat} (j s : Int) (x : Option (Nat × Int)) (h : k' ≠ k) : zupR hr k j s x k' = hr k' := by
  funext j' s'
  simp [zupR, h]
theorem zupR_v (hr : zR) (k : Nat) (j s : Int) (x : Option (Nat × Int)) (j' s' : Int) : zupR hr k j s x k j' s' = if j' = j ∧ s' = s then x else hr k j' s' := by
  simp [zupR]
/-! the relation of the class's cells (c, r) and the reference's (m) -/
def RlT (c2 c3 : Int → Int) (pl tp mpl : Int) (m38 : Int → Int) : Prop :=
  c2 1 = tp ∧ 0 ≤ tp ∧ tp ≤ 400 ∧ (∀ i, 0 ≤ i → i < tp → c3 i = m38 i ∧ -128 ≤ m38 i ∧ m38 i < 128) ∧ pl = mpl
def RlF (fc : Int) (c8 : Int → Int) (fm : Int) (m45 : Int → Int) : Prop :=
  fc = fm ∧ 1 ≤ fm ∧ fm ≤ 64 ∧ ∀ i, 0 ≤ i → i < fm → c8 i = m45 i ∧ 0 ≤ m45 i ∧ m45 i ≤ 15
def RlK (c11 c12 c13 c14 c15 c16 : Int → Int) (ta gi fi st fb : Int) (m46 m47 m48 m49 m50 : Int → Int) : Prop :=
  c11 5 = ta ∧ c11 6 = gi ∧ c11 7 = fi ∧ 0 ≤ fi ∧ fi ≤ fb ∧ 0 ≤ gi ∧ gi ≤ ta ∧ ta ≤ 60 ∧
  ∀ i, 0 ≤ i → i < ta → c12 i = m46 i ∧ c13 i = m47 i ∧ c14 i = m48 i ∧ c15 i = m49 i ∧ c16 i = m50 i ∧ 0 ≤ m46 i ∧ m46 i < st ∧ 0 ≤ m47 i ∧ m47 i < st ∧ m46 i ≠ m47 i
/-- a neighbour by the reference: side d of cell i; -1: none -/
def nbr (ln wd : Int) (k : Int → Int) (i d : Int) : Int :=
  let y := i / wd + (if d = 0 then -1 else if d = 2 then 1 else 0)
  let x := i % wd + (if d = 1 then 1 else if d = 3 then -1 else 0)
  if y < 0 ∨ ln ≤ y ∨ x < 0 ∨ wd ≤ x ∨ k (y * wd + x) = 0 then -1 else y * wd + x
def RlP (c30 c31 c32 c33 c34 c35 : Int → Int) (ln wd sn vn : Int) (m39 m40 m41 m42 : Int → Int) : Prop :=
  c30 5 = ln * wd ∧ c30 6 = wd ∧ c30 7 = sn ∧ c30 8 = vn ∧ 1 ≤ ln ∧ ln ≤ 16 ∧ 1 ≤ wd ∧ wd ≤ 16 ∧ 0 ≤ sn ∧ sn ≤ 10 ∧ 1 ≤ vn ∧ vn ≤ 6 ∧
  (∀ i, 0 ≤ i → i < ln * wd → c31 i = m39 i ∧ 0 ≤ m39 i ∧ m39 i ≤ 3 ∧ c32 i = m40 i ∧ ∀ d, 0 ≤ d → d < 4 → c33 (i * 4 + d) = nbr ln wd m39 i d) ∧
  (∀ i, 0 ≤ i → i < sn → c34 i = m41 i ∧ 0 ≤ m41 i ∧ m41 i < ln * wd ∧ m39 (m41 i) = 2) ∧
  (∀ i, 0 ≤ i → i < vn → c35 i = m42 i ∧ 0 ≤ m42 i ∧ m42 i < ln * wd ∧ m39 (m42 i) = 3) ∧
  (∀ i j, 0 ≤ i → i < j → j < vn → m42 i < m42 j)
/-- vehicles -/
def RlV (c36 : Int → Int → Int) (vn sl : Int) (m67 m69 m70 m71 m72 m73 : Int → Int) : Prop :=
  ∀ v, 0 ≤ v → v < 6 → c36 v 0 = m67 v ∧ c36 v 1 = m69 v ∧ c36 v 2 = m70 v ∧ c36 v 3 = m71 v ∧ (m71 v = 0 ∨ m71 v = 1) ∧ (m71 v = 1 → c36 v 4 = m72 v) ∧ 0 ≤ c36 v 5 ∧ c36 v 5 ≤ sl ∧ (v < vn → c36 v 5 = m73 v)
/-- accounts -/
def RlA (c24 : Int → Int → Int) (vn ta tk : Int) (m74 m75 m76 m77 m78 m79 m80 : Int → Int) : Prop :=
  ∀ v, 0 ≤ v → v < 6 → c24 v 1 = m77 v ∧ c24 v 2 = m78 v ∧ c24 v 3 = m75 v ∧ c24 v 4 = m76 v ∧ c24 v 5 = m79 v ∧ c24 v 6 = m80 v ∧ 0 ≤ m80 v ∧ m80 v ≤ tk ∧ ((m74 v = 1 ∧ m78 v = -1) ∨ (m74 v = 0 ∧ 0 ≤ m78 v ∧ m78 v < ta)) ∧ (vn ≤ v → m74 v = 1)
/-- the cell of an act, read off the trip -/
def aC (c25 c26 c28 : Int → Int → Int) (v i : Int) : Int := if i = c25 v 6 ∨ i = c25 v 7 then -1 else if 0 < c28 v i - c25 v 3 ∧ c28 v i - c25 v 3 < c25 v 4 then c26 v (c28 v i - c25 v 3) else c25 v 2
/-- a trip's numbers are small -/
def rtOK (c25 c28 : Int → Int → Int) (v : Int) : Prop := (0 ≤ c25 v 3 ∧ c25 v 3 ≤ 600) ∧ c25 v 4 ≤ 300 ∧ c25 v 5 ≤ 300 ∧ ∀ i, 1 ≤ i → i ≤ c25 v 5 → 0 ≤ c28 v i ∧ c28 v i ≤ 900
/-- latest trips and plans -/
def RlR (c25 c26 c27 c28 : Int → Int → Int) (vn tk cn : Int) (m42 m51 m52 m53 m54 m55 m56 m77 : Int → Int) : Prop :=
  ∀ v, 0 ≤ v → v < vn → c25 v 2 = m42 v ∧ c25 v 5 = m54 v ∧ 0 ≤ m54 v ∧ m54 v ≤ 300 ∧ 0 ≤ m77 v ∧ m77 v ≤ 60 ∧
    (∀ i, 1 ≤ i → i ≤ m54 v → c27 v i = m55 (301 * v + i) ∧ c28 v i = m56 (301 * v + i) ∧ -1 ≤ m55 (301 * v + i) ∧ m55 (301 * v + i) < cn ∧ (m55 (301 * v + i) = -1 ↔ (i = c25 v 6 ∨ i = c25 v 7)) ∧ 0 ≤ m56 (301 * v + i) ∧ m56 (301 * v + i) ≤ 900) ∧
    (∀ i i', 1 ≤ i → i < i' → i' ≤ m54 v → m56 (301 * v + i) < m56 (301 * v + i')) ∧
    ((m77 v = 0 ∧ m53 v = -1 ∧ c25 v 3 = 0 ∧ c25 v 4 = 0 ∧ m54 v = 0) ∨
     (1 ≤ m77 v ∧ 1 ≤ c25 v 6 ∧ c25 v 6 < c25 v 7 ∧ c25 v 7 ≤ m54 v ∧ 0 ≤ m52 v ∧ m52 v ≤ tk ∧ c25 v 3 = m52 v ∧ 0 ≤ c25 v 4 ∧ c25 v 4 ≤ 300 ∧ m53 v = m52 v + c25 v 4 ∧ m51 (301 * v) = m42 v ∧ ∀ i, 0 ≤ i → i ≤ c25 v 4 → c26 v i = m51 (301 * v + i) ∧ 0 ≤ c26 v i ∧ c26 v i < cn))
/-- what vehicles, base and their plans have to do with each other -/
def RlI (c25 : Int → Int → Int) (vn : Int) (m54 m55 m68 m69 m70 m71 m72 m75 m76 m77 m79 : Int → Int) : Prop :=
  ∀ v, 0 ≤ v → v < vn → (m69 v = m77 v ∨ m69 v = m77 v - 1) ∧ 0 ≤ m69 v ∧ 0 ≤ m70 v ∧ m70 v ≤ 300 ∧
    (m69 v = m77 v → m70 v ≤ m54 v ∧ (m71 v = 1 → m70 v + 1 ≤ m54 v ∧ m72 v = m55 (301 * v + m70 v + 1)) ∧ m68 v = (if m54 v ≤ m70 v ∨ m70 v < c25 v 6 then 0 else if m70 v < c25 v 7 then 1 else 2)) ∧
    (m69 v ≠ m77 v → m71 v = 0 ∧ m68 v = 0) ∧
    0 ≤ m75 v ∧ 0 ≤ m76 v ∧ (m75 v < m69 v ∨ (m75 v = m69 v ∧ m76 v ≤ m70 v)) ∧ 0 ≤ m79 v ∧ m79 v ≤ m54 v
/-- a message on its way: grant?, vehicle, plan, act, cell, due, comings -/
def RlM1 (o : Int → Int) (vn tk e sb : Int) (nm : Int) (sent : Int) (m54 m55 m69 m70 m77 : Int → Int) : Prop :=
  (o 0 = 0 ∨ o 0 = 1) ∧ 0 ≤ o 1 ∧ o 1 < vn ∧ (o 6 = 1 ∨ o 6 = 2) ∧ tk + e ≤ o 5 ∧ o 5 + o 6 ≤ tk + 6 ∧ sent - nm ≤ 12 * (tk + 6 - (o 5 + o 6)) + sb ∧ 0 ≤ nm ∧ nm < sent ∧
  (o 0 = 0 → 0 ≤ o 2 ∧ 0 ≤ o 3 ∧ (o 2 < m69 (o 1) ∨ (o 2 = m69 (o 1) ∧ o 3 ≤ m70 (o 1)))) ∧
  (o 0 = 1 → 1 ≤ o 2 ∧ o 2 ≤ m77 (o 1) ∧ 1 ≤ o 3 ∧ (o 2 = m77 (o 1) → o 3 ≤ m54 (o 1) ∧ o 4 = m55 (301 * o 1 + o 3)) ∧ (o 2 ≠ m77 (o 1) → o 2 = m69 (o 1) → o 3 ≤ m70 (o 1)))
/-- the sum of f over 0 .. n - 1 -/
def smI (f : Int → Int) : Nat → Int
  | 0 => 0
  | n + 1 => smI f n + f n
/-- messages on their way: in the class by number, in the reference a row a coming -/
def RlG (r9 : Int → Option (Nat × Int)) (c10 : Int → Int → Int) (sz : Int) (vn tk e sb sent cm : Int) (m54 m55 m69 m70 m77 m59 m60 m61 m62 m63 m64 m65 : Int → Int) : Prop :=
  ∃ (pi nm : Int → Int), (∀ i, 0 ≤ i → i < 64 → r9 i = some (10, pi i) ∧ 0 ≤ pi i ∧ pi i < 64) ∧ (∀ i i', 0 ≤ i → i < i' → i' < 64 → pi i ≠ pi i') ∧
    0 ≤ sz ∧ sz ≤ 60 ∧ (∀ i i', 0 ≤ i → i < i' → i' < sz → nm i < nm i') ∧
    (∀ i, 0 ≤ i → i < sz → RlM1 (c10 (pi i)) vn tk e sb (nm i) sent m54 m55 m69 m70 m77) ∧
    cm = smI (fun i => c10 (pi i) 6) sz.toNat ∧ 0 ≤ cm ∧ cm ≤ 120 ∧
    (∀ k, 0 ≤ k → k < cm → ∃ i x, 0 ≤ i ∧ i < sz ∧ 0 ≤ x ∧ x < c10 (pi i) 6 ∧ m59 k = c10 (pi i) 5 + x ∧ m60 k = nm i ∧ m61 k = 1 - c10 (pi i) 0 ∧ m62 k = c10 (pi i) 1 ∧ m63 k = c10 (pi i) 2 ∧ m64 k = c10 (pi i) 3 ∧ m65 k = c10 (pi i) 4) ∧
    (∀ i x, 0 ≤ i → i < sz → 0 ≤ x → x < c10 (pi i) 6 → ∃ k, 0 ≤ k ∧ k < cm ∧ m59 k = c10 (pi i) 5 + x ∧ m60 k = nm i) ∧
    (∀ k k', 0 ≤ k → k < k' → k' < cm → m59 k ≠ m59 k' ∨ m60 k ≠ m60 k')
