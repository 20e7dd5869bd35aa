def bt (x : Int) (i : Nat) : Bool := (Int32.ofInt x).toBitVec.getLsbD i
theorem bt_and (a b : Int) (i : Nat) : bt (zand a b) i = (bt a i && bt b i) := by
  unfold bt zand
  rw [Int32.ofInt_toInt, Int32.toBitVec_and, BitVec.getLsbD_and]
theorem bt_or (a b : Int) (i : Nat) : bt (zor a b) i = (bt a i || bt b i) := by
  unfold bt zor
  rw [Int32.ofInt_toInt, Int32.toBitVec_or, BitVec.getLsbD_or]
theorem bt_not (a : Int) (i : Nat) (h : i < 32) : bt (zxor a (-1)) i = !bt a i := by
  unfold bt zxor
  rw [Int32.ofInt_toInt, Int32.toBitVec_xor, BitVec.getLsbD_xor]
  have : (Int32.ofInt (-1)).toBitVec = BitVec.allOnes 32 := by decide
  rw [this, BitVec.getLsbD_allOnes]
  simp [h]
theorem bt_0 (i : Nat) : bt 0 i = false := by
  unfold bt
  have : (Int32.ofInt 0).toBitVec = 0#32 := by decide
  rw [this]
  simp
theorem bt_shl (a : Int) (i : Nat) (h : i < 32) : bt (zshl a 1) i = (decide (1 ≤ i) && bt a (i - 1)) := by
  unfold bt zshl
  have e : (Int32.ofInt 1 &&& 31 : Int32) = 1 := by decide
  rw [Int32.ofInt_toInt, e, Int32.toBitVec_shiftLeft]
  have : (1 : Int32).toBitVec.smod 32 = 1#32 := by decide
  rw [this]
  show ((BitVec.ofInt 32 a) <<< (1#32).toNat).getLsbD i = _
  rw [BitVec.getLsbD_shiftLeft]
  show (decide (i < 32) && !decide (i < 1) && (BitVec.ofInt 32 a).getLsbD (i - 1)) = _
  by_cases q : 1 ≤ i
  · simp [h, q]
    intro _
    omega
  · simp [h, q]
    omega
theorem bt_ushr (a : Int) (i : Nat) : bt (zushr a 1) i = bt a (i + 1) := by
  unfold bt zushr
  rw [Int32.ofInt_toInt]
  simp
  rw [Nat.add_comm]
theorem bt_one : ∀ k : Fin 16, ∀ i : Fin 32, bt (zshl 1 (k.val : Int)) i.val = decide (i.val = k.val) := by decide +kernel
theorem bt_mark {k : Int} (h0 : 0 ≤ k) (h1 : k < 16) {i : Nat} (hi : i < 32) : bt (zshl 1 k) i = decide ((i : Int) = k) := by
  have := bt_one ⟨k.toNat, by omega⟩ ⟨i, hi⟩
  dsimp only at this
  rw [Int.toNat_of_nonneg h0] at this
  rw [this]
  by_cases q : i = k.toNat
  · rw [decide_eq_true q, decide_eq_true (by omega)]
  · rw [decide_eq_false q, decide_eq_false (by omega)]
theorem bt_sh : ∀ k : Fin 16, (((k.val : Int) % 4294967296).toNat &&& 31) % 32 = k.val := by decide +kernel
theorem bt_get {a k : Int} (h0 : 0 ≤ k) (h1 : k < 16) : zand (zushr a k) 1 = 0 ↔ bt a k.toNat = false := by
  have e := bt_sh ⟨k.toNat, by omega⟩
  dsimp only at e
  rw [Int.toNat_of_nonneg h0] at e
  have e1 : bt (zushr a k) 0 = bt a k.toNat := by
    unfold bt zushr
    rw [Int32.ofInt_toInt]
    simp
    rw [e]
  rw [← e1]
  generalize zushr a k = y
  have e2 : bt (zand y 1) 0 = bt y 0 := by
    rw [bt_and]
    have : bt 1 0 = true := by decide
    rw [this, Bool.and_true]
  constructor
  · intro q
    rw [← e2, q, bt_0]
  · intro q
    unfold zand
    have : Int32.ofInt y &&& Int32.ofInt 1 = 0 := by
      apply Int32.toBitVec_inj.mp
      rw [Int32.toBitVec_and]
      apply BitVec.eq_of_getLsbD_eq
      intro i hi
      rw [BitVec.getLsbD_and]
      by_cases z : i = 0
      · subst z
        have : (Int32.ofInt y).toBitVec.getLsbD 0 = false := q
        rw [this]
        simp
      · have h1 : (Int32.ofInt 1).toBitVec = 1#32 := by decide
        rw [h1]
        simp [z]
    rw [this]
    rfl
