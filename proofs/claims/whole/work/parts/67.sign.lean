/-- how many of the first n cells are of kind q -/
def cnK (q : Int) (K : Int → Int) (n : Int) : Int := smI (fun i => if K i = q then 1 else 0) n.toNat
theorem cnK_succ (q : Int) (K : Int → Int) {n : Int} (h : 0 ≤ n) : cnK q K (n + 1) = cnK q K n + (if K n = q then 1 else 0) := smI_succ _ h
theorem cnK_0 (q : Int) (K : Int → Int) : cnK q K 0 = 0 := rfl
theorem cnK_cong (q : Int) {K K' : Int → Int} {n : Int} (h : ∀ i, 0 ≤ i → i < n → K i = K' i) : cnK q K n = cnK q K' n := by
  refine smI_cong _ (fun i a b => ?_)
  rw [h i a (by omega)]
theorem cnK_mono (q : Int) (K : Int → Int) {a : Int} (ha : 0 ≤ a) : ∀ n : Nat, cnK q K a ≤ cnK q K (a + n) ∧ cnK q K (a + n) ≤ cnK q K a + n := by
  intro n
  induction n with
  | zero => simp
  | succ n ih =>
    have e : a + ((n + 1 : Nat) : Int) = a + n + 1 := by omega
    rw [e, cnK_succ q K (by omega)]
    split <;> omega
theorem cnK_le (q : Int) (K : Int → Int) {a b : Int} (ha : 0 ≤ a) (h : a ≤ b) : cnK q K a ≤ cnK q K b ∧ cnK q K b ≤ cnK q K a + (b - a) := by
  have := cnK_mono q K ha (b - a).toNat
  rw [show a + ((b - a).toNat : Int) = b by omega] at this
  omega
theorem cnK_inj {q : Int} {K : Int → Int} {a b : Int} (ha : 0 ≤ a) (hb : 0 ≤ b) (ka : K a = q) (kb : K b = q) (h : cnK q K a = cnK q K b) : a = b := by
  by_cases z : a < b
  · have := (cnK_le q K (show 0 ≤ a + 1 by omega) (show a + 1 ≤ b by omega)).1
    rw [cnK_succ q K ha, if_pos ka] at this
    omega
  · by_cases z' : b < a
    · have := (cnK_le q K (show 0 ≤ b + 1 by omega) (show b + 1 ≤ a by omega)).1
      rw [cnK_succ q K hb, if_pos kb] at this
      omega
    · omega
/-- numbers, stations and parkings of the first n cells -/
def MpI (K : Int → Int) (n sc pc : Int) (od st pk : Int → Int) (ms mp : Int) : Prop := sc = cnK 2 K n ∧ pc = cnK 3 K n ∧ (∀ i, 0 ≤ i → i < n → (0 ≤ K i ∧ K i ≤ 3) ∧ (K i = 2 → od i = cnK 2 K i) ∧ (K i = 3 → od i = cnK 3 K i) ∧ (K i ≠ 2 → K i ≠ 3 → od i = -1)) ∧
  (∀ s, 0 ≤ s → s < sc → s < ms → (0 ≤ st s ∧ st s < n) ∧ K (st s) = 2 ∧ cnK 2 K (st s) = s) ∧ (∀ s, 0 ≤ s → s < pc → s < mp → (0 ≤ pk s ∧ pk s < n) ∧ K (pk s) = 3 ∧ cnK 3 K (pk s) = s)
theorem MpI.zero (K : Int → Int) (od st pk : Int → Int) (ms mp : Int) : MpI K 0 0 0 od st pk ms mp :=
  ⟨rfl, rfl, fun i a b => by omega, fun s a b => by omega, fun s a b => by omega⟩
/-- one cell more -/
theorem MpI.step {K K' : Int → Int} {n sc pc sc' pc' : Int} {od st pk od' st' pk' : Int → Int} {ms mp q : Int} (h : MpI K n sc pc od st pk ms mp) (hn : 0 ≤ n) (hq : 0 ≤ q ∧ q ≤ 3) (eK : ∀ i, i < n → K' i = K i) (eq : K' n = q) (eo : ∀ i, i < n → od' i = od i)
    (e0 : q ≠ 2 → q ≠ 3 → od' n = -1) (e2 : q = 2 → od' n = sc ∧ (sc < ms → st' sc = n)) (e3 : q = 3 → od' n = pc ∧ (pc < mp → pk' pc = n)) (es : ∀ s, s < sc → st' s = st s) (ep : ∀ s, s < pc → pk' s = pk s)
    (f2 : sc' = sc + (if q = 2 then 1 else 0)) (f3 : pc' = pc + (if q = 3 then 1 else 0)) : MpI K' (n + 1) sc' pc' od' st' pk' ms mp := by
  obtain ⟨h1, h2, h3, h4, h5⟩ := h
  have cc : ∀ k i, i ≤ n → cnK k K' i = cnK k K i := fun k i hi => cnK_cong k (fun i' a b => eK i' (by omega))
  refine ⟨?_, ?_, fun i a b => ?_, fun s a b c => ?_, fun s a b c => ?_⟩
  · rw [cnK_succ 2 K' hn, cc 2 n (by omega), eq, f2, h1]
  · rw [cnK_succ 3 K' hn, cc 3 n (by omega), eq, f3, h2]
  · by_cases z : i = n
    · rw [z, eq, cc 2 n (by omega), cc 3 n (by omega), ← h1, ← h2]
      exact ⟨hq, fun w => (e2 w).1, fun w => (e3 w).1, e0⟩
    · rw [eK i (by omega), eo i (by omega), cc 2 i (by omega), cc 3 i (by omega)]
      exact h3 i a (by omega)
  · by_cases z : s < sc
    · obtain ⟨x1, x2, x3⟩ := h4 s a z c
      rw [es s z, eK _ x1.2, cc 2 _ (by omega)]
      exact ⟨by omega, x2, x3⟩
    · by_cases w : q = 2
      · rw [if_pos w] at f2
        have e : s = sc := by omega
        rw [e, (e2 w).2 (by omega), eq, cc 2 n (by omega)]
        exact ⟨by omega, w, h1.symm⟩
      · rw [if_neg w] at f2
        omega
  · by_cases z : s < pc
    · obtain ⟨x1, x2, x3⟩ := h5 s a z c
      rw [ep s z, eK _ x1.2, cc 3 _ (by omega)]
      exact ⟨by omega, x2, x3⟩
    · by_cases w : q = 3
      · rw [if_pos w] at f3
        have e : s = pc := by omega
        rw [e, (e3 w).2 (by omega), eq, cc 3 n (by omega)]
        exact ⟨by omega, w, h2.symm⟩
      · rw [if_neg w] at f3
        omega
/-- what a sign means -/
def sgn (b : Int) : Int := if b = 35 then 0 else if b = 46 then 1 else if b = 83 then 2 else if b = 80 then 3 else -1
theorem sgn_bd (b : Int) : sgn b = -1 ∨ (0 ≤ sgn b ∧ sgn b ≤ 3) := by
  unfold sgn
  (repeat' split) <;> omega
theorem kindOfSign_run {hi : zI} {hr : zR} (b : Int) : R0i mX2_kindOfSign [.inl b] hi hr (sgn b) := by
  intro P hP
  unfold sgn at hP
  refine GX2_kindOfSign b ⟨fun z => ?_, fun z => ?_, fun z => ?_, fun z => ?_, fun z => ?_⟩
  · rw [if_neg z.1, if_neg z.2.1, if_neg z.2.2.2, if_neg z.2.2.1] at hP; exact hP
  · rw [if_pos z] at hP; exact hP
  · rw [if_neg (by omega), if_pos z] at hP; exact hP
  · rw [if_neg (by omega), if_neg (by omega), if_neg (by omega), if_pos z] at hP; exact hP
  · rw [if_neg (by omega), if_neg (by omega), if_pos z] at hP; exact hP
theorem sort_run {hi : zI} {hr : zR} (b : Int) : R0i mX12_sort [.inl b] hi hr (sgn b) := by
  intro P hP
  unfold sgn at hP
  refine GX12_sort b ⟨fun z1 => ⟨fun z2 => ⟨fun z3 => ⟨fun z4 => ?_, fun z4 => ?_⟩, fun z3 => ?_⟩, fun z2 => ?_⟩, fun z1 => ?_⟩
  · rw [if_neg z1, if_neg z2, if_neg z3, if_neg z4] at hP; exact hP
  · rw [if_neg z1, if_neg z2, if_neg z3, if_pos z4] at hP; exact hP
  · rw [if_neg z1, if_neg z2, if_pos z3] at hP; exact hP
  · rw [if_neg z1, if_pos z2] at hP; exact hP
  · rw [if_pos z1] at hP; exact hP
theorem zand255 : ∀ k : Fin 256, zand ((k.val : Int) - 128) 255 = if (k.val : Int) - 128 < 0 then (k.val : Int) + 128 else (k.val : Int) - 128 := by decide +kernel
theorem zand_b {b : Int} (h : -128 ≤ b ∧ b < 128) : (zand b 255 = 10 ↔ b = 10) ∧ sgn (zand b 255) = sgn b := by
  have := zand255 ⟨(b + 128).toNat, by omega⟩
  dsimp only at this
  rw [show (((b + 128).toNat : Nat) : Int) - 128 = b by omega, show (((b + 128).toNat : Nat) : Int) + 128 = b + 256 by omega] at this
  rw [this]
  by_cases q : b < 0
  · rw [if_pos q]
    refine ⟨by omega, ?_⟩
    unfold sgn
    rw [if_neg (by omega), if_neg (by omega), if_neg (by omega), if_neg (by omega), if_neg (by omega), if_neg (by omega), if_neg (by omega), if_neg (by omega)]
  · rw [if_neg q]
    exact ⟨Iff.rfl, rfl⟩
