/-! the mathematics of trips: ln lines, wd wide, k the kinds; pk parkings; tr tb te the latest trips -/
def tAt (pk tr tb te : Int → Int) (u t : Int) : Int := if te u = -1 ∨ t < tb u ∨ te u ≤ t then pk u else tr (301 * u + t - tb u)
def clr (vn : Int) (pk tr tb te : Int → Int) (v t here there : Int) : Prop :=
  ∀ u, 0 ≤ u → u < vn → u ≠ v → tAt pk tr tb te u t ≠ there ∧ tAt pk tr tb te u (t + 1) ≠ there ∧ tAt pk tr tb te u (t + 1) ≠ here
/-- where a step s (0: stays, 1 .. 4: to a neighbour) leads from p = 3 * cell + stage; -1: nowhere -/
def ldTo (ln wd : Int) (k : Int → Int) (a b pa : Int) (p s : Int) : Int :=
  let here := p / 3
  let ld := p % 3
  let there := if s = 0 then here else nbr ln wd k here (s - 1)
  if there = -1 then -1
  else if s ≠ 0 ∧ 2 ≤ k there ∧ there ≠ a ∧ there ≠ b ∧ there ≠ pa then -1
  else 3 * there + (if s = 0 ∧ ld = 0 ∧ here = a then 1 else if s = 0 ∧ ld = 1 ∧ here = b then 2 else ld)
def stp (ln wd vn : Int) (k pk tr tb te : Int → Int) (v a b t p q : Int) : Prop :=
  ∃ s, 0 ≤ s ∧ s < 5 ∧ ldTo ln wd k a b (pk v) p s = q ∧ q ≠ -1 ∧ clr vn pk tr tb te v t (p / 3) (q / 3)
/-- what n steps from moment t0 on lead to -/
def rch (ln wd vn : Int) (k pk tr tb te : Int → Int) (v a b t0 : Int) : Nat → Int → Prop
  | 0, p => p = 3 * pk v
  | n + 1, q => ∃ p, rch ln wd vn k pk tr tb te v a b t0 n p ∧ stp ln wd vn k pk tr tb te v a b (t0 + n) p q
/-- there is a plan -/
def Fnd (ln wd vn : Int) (k pk tr tb te : Int → Int) (v a b t0 : Int) : Prop := ∃ n : Nat, n ≤ 300 ∧ rch ln wd vn k pk tr tb te v a b t0 n (3 * pk v + 2)
/-- what is noted as hopeless is so from now on -/
def RlH (ht hv gi ta tk ln wd vn : Int) (k st pk tr tb te fr to : Int → Int) : Prop :=
  ht ≤ gi ∧ (ht = gi → gi < ta ∧ 0 ≤ hv ∧ hv < vn ∧ ∀ t, tk ≤ t → ¬ Fnd ln wd vn k pk tr tb te hv (st (fr gi)) (st (to gi)) t)
def RlS (ctk cac cse clo cfl : Int) (tk ac se lo vn ab sb : Int) : Prop :=
  ctk = tk ∧ 0 ≤ tk ∧ tk ≤ 600 ∧ cac = ac ∧ 0 ≤ ac ∧ ac ≤ ab ∧ cse = se ∧ 0 ≤ se ∧ se ≤ sb ∧ clo = lo ∧ 0 ≤ lo ∧ lo ≤ se ∧ cfl = vn
/-- no plan but of a task given; a vehicle of which the base thinks it idle has done its plan whole -/
def RlJ (vn gi : Int) (m54 m69 m70 m74 m77 : Int → Int) : Prop := ∀ v, 0 ≤ v → v < vn → m77 v ≤ gi ∧ (m74 v = 1 → m69 v = m77 v ∧ m54 v ≤ m70 v)
/-- the whole relation; f a s l e: how far a tick has come (0 0 0 0 0 between ticks) -/
def Rl (f a s l e : Int) (c : zI) (r : zR) (m : zI) : Prop := RSc r ∧ RSm r ∧
  (∃ jh : Int, (jh = 0 ∨ jh = 1) ∧ r 19 0 3 = some (23, jh) ∧ r 19 0 4 = some (23, 1 - jh)) ∧
  RlS (c 1 0 9) (c 1 0 10) (c 7 0 4) (c 7 0 5) (c 17 0 2) (m 37 0 61) (m 37 0 53) (m 37 0 35) (m 37 0 36) (m 37 0 10) (6 * m 37 0 61 + a) (12 * m 37 0 61 + s) ∧
  RlT (c 2 0) (c 3 0) (c 1 0 8) (m 37 0 2) (m 37 0 4) (m 38 0) ∧
  RlF (c 7 0 2) (c 8 0) (m 37 0 17) (m 45 0) ∧
  RlK (c 11 0) (c 12 0) (c 13 0) (c 14 0) (c 15 0) (c 16 0) (m 37 0 19) (m 37 0 20) (m 37 0 21) (m 37 0 9) (6 * m 37 0 61 + f) (m 46 0) (m 47 0) (m 48 0) (m 49 0) (m 50 0) ∧
  (∃ jm : Int, (jm = 0 ∨ jm = 1) ∧ r 1 0 6 = some (30, jm) ∧ r 1 0 7 = some (30, 1 - jm) ∧
    RlP (c 30 jm) (c 31 jm) (c 32 jm) (c 33 jm) (c 34 jm) (c 35 jm) (m 37 0 5) (m 37 0 6) (m 37 0 9) (m 37 0 10) (m 39 0) (m 40 0) (m 41 0) (m 42 0)) ∧
  RlV (c 36) (m 37 0 10) (m 37 0 61 + l) (m 67 0) (m 69 0) (m 70 0) (m 71 0) (m 72 0) (m 73 0) ∧
  RlA (c 24) (m 37 0 10) (m 37 0 19) (m 37 0 61) (m 74 0) (m 75 0) (m 76 0) (m 77 0) (m 78 0) (m 79 0) (m 80 0) ∧
  RlR (c 25) (c 26) (aC (c 25) (c 26) (c 28)) (c 28) (m 37 0 10) (m 37 0 61) (m 37 0 5 * m 37 0 6) (m 42 0) (m 51 0) (m 52 0) (m 53 0) (m 54 0) (m 55 0) (m 56 0) (m 77 0) ∧
  RlI (c 25) (m 37 0 10) (m 54 0) (m 55 0) (m 68 0) (m 69 0) (m 70 0) (m 71 0) (m 72 0) (m 75 0) (m 76 0) (m 77 0) (m 79 0) ∧
  RlG (r 9 0) (c 10) (c 7 0 3) (m 37 0 10) (m 37 0 61) e s (m 37 0 35) (m 37 0 37) (m 54 0) (m 55 0) (m 69 0) (m 70 0) (m 77 0) (m 59 0) (m 60 0) (m 61 0) (m 62 0) (m 63 0) (m 64 0) (m 65 0) ∧
  RlH (c 17 0 3) (c 17 0 4) (m 37 0 20) (m 37 0 19) (m 37 0 61) (m 37 0 5) (m 37 0 6) (m 37 0 10) (m 39 0) (m 41 0) (m 42 0) (m 51 0) (m 52 0) (m 53 0) (m 46 0) (m 47 0) ∧ RlJ (m 37 0 10) (m 37 0 20) (m 54 0) (m 69 0) (m 70 0) (m 74 0) (m 77 0)
/-- the reference's cells alone count on its side, the class's on its own -/
theorem Rl.onM {f a s l e : Int} {c : zI} {r : zR} {m m' : zI} (h : Rl f a s l e c r m) (he : ∀ k, 37 ≤ k → m' k = m k) : Rl f a s l e c r m' := by
  unfold Rl at h ⊢
  simp only [he 37 (by decide), he 38 (by decide), he 39 (by decide), he 40 (by decide), he 41 (by decide), he 42 (by decide), he 45 (by decide), he 46 (by decide), he 47 (by decide), he 48 (by decide), he 49 (by decide), he 50 (by decide), he 51 (by decide), he 52 (by decide), he 53 (by decide), he 54 (by decide), he 55 (by decide), he 56 (by decide), he 59 (by decide), he 60 (by decide), he 61 (by decide), he 62 (by decide), he 63 (by decide), he 64 (by decide), he 65 (by decide), he 67 (by decide), he 68 (by decide), he 69 (by decide), he 70 (by decide), he 71 (by decide), he 72 (by decide), he 73 (by decide), he 74 (by decide), he 75 (by decide), he 76 (by decide), he 77 (by decide), he 78 (by decide), he 79 (by decide), he 80 (by decide)]
  exact h
theorem Rl.onC {f a s l e : Int} {c c' : zI} {r : zR} {m : zI} (h : Rl f a s l e c r m) (he : ∀ k, k < 37 → c' k = c k) : Rl f a s l e c' r m := by
  unfold Rl at h ⊢
  simp only [he 1 (by decide), he 2 (by decide), he 3 (by decide), he 7 (by decide), he 8 (by decide), he 10 (by decide), he 11 (by decide), he 12 (by decide), he 13 (by decide), he 14 (by decide), he 15 (by decide), he 16 (by decide), he 17 (by decide), he 24 (by decide), he 25 (by decide), he 26 (by decide), he 28 (by decide), he 30 (by decide), he 31 (by decide), he 32 (by decide), he 33 (by decide), he 34 (by decide), he 35 (by decide), he 36 (by decide)]
  exact h
abbrev RLb (c : zI) (r : zR) (m : zI) : Prop := Rl 0 0 0 0 0 c r m
/-- both answer alike, and stay related -/
def SimI (y y' : zM) (vs : List zV) (hi : zI) (hr : zR) : Prop := ∀ K : Int → zI → zR → Prop, (∀ x hi' hr', RLb hi' hr' hi' → K x hi' hr') →
  WPm y (.inr (some (1, 0)) :: vs) hi hr (fun r hi1 hr1 => ∃ x, r = some (.inl x) ∧ WPm y' (.inr (some (37, 0)) :: vs) hi1 hr1 (fun r' hi2 hr2 => r' = some (.inl x) ∧ K x hi2 hr2))
theorem SimI.of1 {y y' : zM} {vs : List zV} {hi : zI} {hr : zR} {x : Int} {c' m' : zI} (h1 : R1i y (.inr (some (1, 0)) :: vs) hi hr x c') (h2 : R1i y' (.inr (some (37, 0)) :: vs) c' hr x m') (h3 : RLb m' hr m') : SimI y y' vs hi hr := by
  intro K hK
  refine WPm.mono (h1 (fun x1 h => x1 = x ∧ h = c') ⟨rfl, rfl⟩) (fun r hi1 hr1 q => ?_)
  obtain ⟨x1, rfl, hx, rfl, rfl, rfl⟩ := q
  refine ⟨x1, rfl, WPm.mono (h2 (fun x2 h => x2 = x1 ∧ h = m') ⟨rfl, rfl⟩) (fun r2 hi2 hr2 q => ?_)⟩
  obtain ⟨x2, rfl, hx2, rfl, rfl, rfl⟩ := q
  exact ⟨rfl, hK _ _ _ h3⟩
theorem SimI.of0 {y y' : zM} {vs : List zV} {hi : zI} {hr : zR} {x : Int} (h1 : R0i y (.inr (some (1, 0)) :: vs) hi hr x) (h2 : R0i y' (.inr (some (37, 0)) :: vs) hi hr x) (h3 : RLb hi hr hi) : SimI y y' vs hi hr := by
  intro K hK
  refine WPm.mono (h1 (fun x1 => x1 = x) rfl) (fun r hi1 hr1 q => ?_)
  obtain ⟨x1, rfl, hx, rfl, rfl, rfl⟩ := q
  refine ⟨x1, rfl, WPm.mono (h2 (fun x2 => x2 = x1) rfl) (fun r2 hi2 hr2 q => ?_)⟩
  obtain ⟨x2, rfl, hx2, rfl, rfl, rfl⟩ := q
  exact ⟨rfl, hK _ _ _ h3⟩
/-- the class changes nothing, the reference scratch alone (and the like) -/
theorem SimI.of01 {y y' : zM} {vs : List zV} {hi : zI} {hr : zR} {x : Int} {m' : zI} (h1 : R0i y (.inr (some (1, 0)) :: vs) hi hr x) (h2 : R1i y' (.inr (some (37, 0)) :: vs) hi hr x m') (h3 : RLb m' hr m') : SimI y y' vs hi hr := by
  intro K hK
  refine WPm.mono (h1 (fun x1 => x1 = x) rfl) (fun r hi1 hr1 q => ?_)
  obtain ⟨x1, rfl, hx, rfl, rfl, rfl⟩ := q
  refine ⟨x1, rfl, WPm.mono (h2 (fun x2 h => x2 = x1 ∧ h = m') ⟨rfl, rfl⟩) (fun r2 hi2 hr2 q => ?_)⟩
  obtain ⟨x2, rfl, hx2, rfl, rfl, rfl⟩ := q
  exact ⟨rfl, hK _ _ _ h3⟩
