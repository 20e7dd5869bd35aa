def bt (x : Int) (i : Nat) : Bool := (Int64.ofInt x).toBitVec.getLsbD i
theorem bt_and (a b : Int) (i : Nat) : bt (zland a b) i = (bt a i && bt b i) := by
  unfold bt zland
  rw [Int64.ofInt_toInt, Int64.toBitVec_and, BitVec.getLsbD_and]
theorem bt_or (a b : Int) (i : Nat) : bt (zlor a b) i = (bt a i || bt b i) := by
  unfold bt zlor
  rw [Int64.ofInt_toInt, Int64.toBitVec_or, BitVec.getLsbD_or]
theorem bt_not (a : Int) (i : Nat) (h : i < 64) : bt (zlxor a (-1)) i = !bt a i := by
  unfold bt zlxor
  rw [Int64.ofInt_toInt, Int64.toBitVec_xor, BitVec.getLsbD_xor]
  have : (Int64.ofInt (-1)).toBitVec = BitVec.allOnes 64 := by decide
  rw [this, BitVec.getLsbD_allOnes]
  simp [h]
theorem bt_0 (i : Nat) : bt 0 i = false := by
  unfold bt
  have : (Int64.ofInt 0).toBitVec = 0#64 := by decide
  rw [this]
  simp
theorem bt_shl (a : Int) (i : Nat) (h : i < 64) : bt (zlshl a 1) i = (decide (1 ≤ i) && bt a (i - 1)) := by
  unfold bt zlshl
  have e : ((Int32.ofInt 1).toInt64 &&& 63 : Int64) = 1 := by decide
  rw [Int64.ofInt_toInt, e, Int64.toBitVec_shiftLeft]
  have : (1 : Int64).toBitVec.smod 64 = 1#64 := by decide
  rw [this]
  show ((BitVec.ofInt 64 a) <<< (1#64).toNat).getLsbD i = _
  rw [BitVec.getLsbD_shiftLeft]
  show (decide (i < 64) && !decide (i < 1) && (BitVec.ofInt 64 a).getLsbD (i - 1)) = _
  rw [decide_eq_true h, Bool.true_and]
  congr 1
  by_cases q : 1 ≤ i
  · rw [decide_eq_true q, decide_eq_false (show ¬ i < 1 by omega)]; rfl
  · rw [decide_eq_false q, decide_eq_true (show i < 1 by omega)]; rfl
theorem bt_shl20 (a : Int) (i : Nat) (h : i < 64) : bt (zlshl a 20) i = (decide (20 ≤ i) && bt a (i - 20)) := by
  unfold bt zlshl
  have e : ((Int32.ofInt 20).toInt64 &&& 63 : Int64) = 20 := by decide
  rw [Int64.ofInt_toInt, e, Int64.toBitVec_shiftLeft]
  have : (20 : Int64).toBitVec.smod 64 = 20#64 := by decide
  rw [this]
  show ((BitVec.ofInt 64 a) <<< (20#64).toNat).getLsbD i = _
  rw [BitVec.getLsbD_shiftLeft]
  show (decide (i < 64) && !decide (i < 20) && (BitVec.ofInt 64 a).getLsbD (i - 20)) = _
  rw [decide_eq_true h, Bool.true_and]
  congr 1
  by_cases q : 20 ≤ i
  · rw [decide_eq_true q, decide_eq_false (show ¬ i < 20 by omega)]; rfl
  · rw [decide_eq_false q, decide_eq_true (show i < 20 by omega)]; rfl
theorem bt_ushr (a : Int) (i : Nat) : bt (zlushr a 1) i = bt a (i + 1) := by
  unfold bt zlushr
  rw [Int64.ofInt_toInt]
  have e : ((Int32.ofInt 1).toInt64.toUInt64 &&& Int64.toUInt64 63) = 1 := by decide
  rw [e]
  show ((BitVec.ofInt 64 a) >>> (1 % 64)).getLsbD i = _
  rw [BitVec.getLsbD_ushiftRight, Nat.add_comm]
  rfl
theorem bt_ushr20 (a : Int) (i : Nat) : bt (zlushr a 20) i = bt a (i + 20) := by
  unfold bt zlushr
  rw [Int64.ofInt_toInt]
  have e : ((Int32.ofInt 20).toInt64.toUInt64 &&& Int64.toUInt64 63) = 20 := by decide
  rw [e]
  show ((BitVec.ofInt 64 a) >>> (20 % 64)).getLsbD i = _
  rw [BitVec.getLsbD_ushiftRight, Nat.add_comm]
  rfl
theorem bt_one : ∀ k : Fin 60, ∀ i : Fin 64, bt (zlshl 1 (k.val : Int)) i.val = decide (i.val = k.val) := by decide +kernel
theorem bt_big (a : Int) {i : Nat} (h : 64 ≤ i) : bt a i = false := BitVec.getLsbD_of_ge _ _ h
theorem bt_mark {k : Int} (h0 : 0 ≤ k) (h1 : k < 60) (i : Nat) : bt (zlshl 1 k) i = decide ((i : Int) = k) := by
  by_cases hi : i < 64
  · have := bt_one ⟨k.toNat, by omega⟩ ⟨i, hi⟩
    dsimp only at this
    rw [Int.toNat_of_nonneg h0] at this
    rw [this]
    by_cases q : i = k.toNat
    · rw [decide_eq_true q, decide_eq_true (by omega)]
    · rw [decide_eq_false q, decide_eq_false (by omega)]
  · rw [bt_big _ (by omega), decide_eq_false (by omega)]
theorem bt_sh : ∀ k : Fin 60, ((Int32.ofInt (k.val : Int)).toInt64.toUInt64 &&& Int64.toUInt64 63) = UInt64.ofNat k.val := by decide +kernel
theorem bt_sh2 : ∀ k : Fin 60, (UInt64.ofNat k.val).toNat % 64 = k.val := by decide +kernel
theorem bt_get {a k : Int} (h0 : 0 ≤ k) (h1 : k < 60) : zlcmp (zland (zlushr a k) 1) 0 = 0 ↔ bt a k.toNat = false := by
  have e := bt_sh ⟨k.toNat, by omega⟩
  have e' := bt_sh2 ⟨k.toNat, by omega⟩
  dsimp only at e e'
  rw [Int.toNat_of_nonneg h0] at e
  have e1 : bt (zlushr a k) 0 = bt a k.toNat := by
    unfold bt zlushr
    rw [Int64.ofInt_toInt, e]
    show ((BitVec.ofInt 64 a) >>> ((UInt64.ofNat k.toNat).toNat % 64)).getLsbD 0 = _
    rw [e', BitVec.getLsbD_ushiftRight]
    rfl
  rw [← e1]
  generalize zlushr a k = y
  have e2 : bt (zland y 1) 0 = bt y 0 := by
    rw [bt_and]
    have : bt 1 0 = true := by decide
    rw [this, Bool.and_true]
  have e3 : zlcmp (zland y 1) 0 = 0 ↔ Int64.ofInt (zland y 1) = Int64.ofInt 0 := by
    unfold zlcmp
    rw [← lg_cmp_eq, ← Int32.toInt_inj]
    rfl
  rw [e3]
  constructor
  · intro q
    rw [← e2]
    unfold bt
    rw [q]
    exact bt_0 0
  · intro q
    unfold zland
    rw [Int64.ofInt_toInt]
    apply Int64.toBitVec_inj.mp
    rw [Int64.toBitVec_and]
    apply BitVec.eq_of_getLsbD_eq
    intro i hi
    rw [BitVec.getLsbD_and]
    by_cases z : i = 0
    · subst z
      have : (Int64.ofInt y).toBitVec.getLsbD 0 = false := q
      rw [this]
      rfl
    · have h1 : (Int64.ofInt 1).toBitVec = 1#64 := by decide
      have h2 : (Int64.ofInt 0).toBitVec = 0#64 := by decide
      rw [h1, h2]
      simp [z]
