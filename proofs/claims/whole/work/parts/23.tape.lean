/-- all cells of a kind anew -/
def zput (c : zI) (k : Nat) (f : Int → Int → Int) : zI := fun k' => if k' = k then f else c k'
theorem zput_s (c : zI) (k : Nat) (f : Int → Int → Int) : zput c k f k = f := by simp [zput]
theorem zput_k (c : zI) {k k' : Nat} (f : Int → Int → Int) (h : k' ≠ k) : zput c k f k' = c k' := by simp [zput, h]
def RWv (y : zM) (pc : Nat) (ls : List (Option zV)) (hi : zI) (hr : zR) (hi' : zI) : Prop := ∀ P : zI → Prop, P hi' → WP y pc ls [] hi hr (zQ1v hr P)
theorem z_bv (x : Int32) : x.toInt = if 2 * x.toBitVec.toNat < 4294967296 then (x.toBitVec.toNat : Int) else (x.toBitVec.toNat : Int) - 4294967296 := by
  have h := BitVec.toInt_eq_toNat_cond x.toBitVec
  simp only [Nat.reducePow] at h
  exact h
theorem zi2b_bmod {a : Int} (h : zInR a) : zi2b a = if a % 256 < 128 then a % 256 else a % 256 - 256 := by
  unfold zi2b
  rw [Int8.toInt_toInt32, Int32.toInt_toInt8, z_ofI h, Int.bmod_def]
  simp
theorem zshr_k (l s : Int) (k : Nat) (hs : ((Int32.ofInt s &&& 31).toBitVec.smod 32).toNat = k) (hl : zInR l) : zshr l s = l / 2 ^ k := by
  unfold zshr
  rw [pk_shr _ _ k hs, z_ofI hl, Int.shiftRight_eq_div_pow]
  simp
theorem zushr_k (l s : Int) (k : Nat) (hs : (((Int32.ofInt s).toUInt32 &&& Int32.toUInt32 31).toBitVec % 32).toNat = k) : ∃ N M : Nat, N < 4294967296 ∧ M = N / 2 ^ k ∧ (Int32.ofInt l).toInt = (if 2 * N < 4294967296 then (N : Int) else (N : Int) - 4294967296) ∧ zushr l s = (if 2 * M < 4294967296 then (M : Int) else (M : Int) - 4294967296) := by
  refine ⟨(Int32.ofInt l).toBitVec.toNat, _, (Int32.ofInt l).toBitVec.isLt, rfl, z_bv _, ?_⟩
  unfold zushr
  rw [z_bv, pk_ushr _ _ k hs]
/-- byte i (0: the highest) of a word -/
def byt (l i : Int) : Int := zi2b (zshr l (24 - 8 * i))
theorem byt_eq {l : Int} (hl : zInR l) {s : Int} (h : s = 0 ∨ s = 8 ∨ s = 16 ∨ s = 24) : zi2b (zushr l s) = zi2b (zshr l s) := by
  have go : ∀ k : Nat, (k = 0 ∨ k = 8 ∨ k = 16 ∨ k = 24) → ((Int32.ofInt s &&& 31).toBitVec.smod 32).toNat = k → (((Int32.ofInt s).toUInt32 &&& Int32.toUInt32 31).toBitVec % 32).toNat = k → zi2b (zushr l s) = zi2b (zshr l s) := by
    intro k hk h1 h2
    obtain ⟨N, M, hN, hM, hl2, hu⟩ := zushr_k l s k h2
    rw [z_ofI hl] at hl2
    have hs := zshr_k l s k h1 hl
    rw [zi2b_bmod (a := zushr l s) (z_toI _), zi2b_bmod (a := zshr l s) (z_toI _), hs, hu]
    obtain ⟨hl3, hl4⟩ := hl
    have e : (if 2 * M < 4294967296 then (M : Int) else (M : Int) - 4294967296) % 256 = l / 2 ^ k % 256 := by
      rcases hk with rfl | rfl | rfl | rfl <;> simp only [Nat.reducePow, Int.reducePow] at hM ⊢ <;> split <;> split at hl2 <;> omega
    rw [e]
  rcases h with rfl | rfl | rfl | rfl
  · exact go 0 (by simp) (by decide +kernel) (by decide +kernel)
  · exact go 8 (by simp) (by decide +kernel) (by decide +kernel)
  · exact go 16 (by simp) (by decide +kernel) (by decide +kernel)
  · exact go 24 (by simp) (by decide +kernel) (by decide +kernel)
/-- k bytes of l come behind the tape -/
theorem addWord_loop {hr : zR} (hR : RSc hr) {l : Int} (hl : zInR l) : ∀ (k : Nat) (hi : zI) (n : Int), k ≤ 4 → hi 2 0 1 = n → 0 ≤ n → n + k ≤ 400 →
    ∃ hi', RWv mX7_addWord 3 [some (.inr (some (2, 0))), some (.inl l), some (.inl (8 * (k : Int) - 8))] hi hr hi' ∧ hi' 2 0 1 = n + k ∧ (∀ i : Int, i < n → hi' 3 0 i = hi 3 0 i) ∧ (∀ i : Int, 0 ≤ i → i < (k : Int) → hi' 3 0 (n + i) = byt l (4 - k + i)) ∧ ∀ q, q ≠ 2 → q ≠ 3 → hi' q = hi q := by
  intro k
  induction k with
  | zero =>
    intro hi n _ hn h0 h1
    refine ⟨hi, fun P hP => GX7_addWord_3 hR l _ ⟨fun _ => hP, fun h => absurd h (by omega)⟩, by simpa using hn, fun _ _ => rfl, fun i h2 h3 => absurd h3 (by omega), fun _ _ _ => rfl⟩
  | succ k ih =>
    intro hi n hk hn h0 h1
    have e0 : (8 * ((k + 1 : Nat) : Int) - 8) = 8 * (k : Int) := by omega
    rw [e0]
    obtain ⟨hi', r1, r2, r3, r4, r5⟩ := ih (zup (zup hi 3 0 (hi 2 0 1) (zi2b (zushr l (8 * (k : Int))))) 2 0 1 ((hi 2 0 1) + 1)) (n + 1) (by omega) (by rw [zup_s, hn]) (by omega) (by omega)
    refine ⟨hi', fun P hP => GX7_addWord_3 hR l _ ⟨fun h => absurd h (by omega), fun _ => ⟨fun h => absurd h (by omega), fun _ => ⟨⟨by omega, by omega⟩, ⟨by omega, by omega⟩, ⟨by omega, by omega⟩, ?_⟩⟩⟩, by rw [r2]; omega, fun i hi0 => ?_, fun i h2 h3 => ?_, fun q hq2 hq3 => ?_⟩
    · exact r1 P hP
    · rw [r3 i (by omega), zup_k _ _ _ _ _ _ (by decide), zup_f _ _ _ _ _ _ (by omega)]
    · by_cases hi0 : i = 0
      · subst hi0
        rw [r3 _ (by omega), zup_k _ _ _ _ _ _ (by decide), hn, Int.add_zero, zup_s, byt_eq hl (by omega), byt]
        congr 2
        omega
      · have := r4 (i - 1) (by omega) (by omega)
        rw [show n + 1 + (i - 1) = n + i by omega] at this
        rw [this]
        congr 1
        omega
    · rw [r5 q hq2 hq3, zup_kf _ _ _ _ hq2, zup_kf _ _ _ _ hq3]
theorem put_loop {hr : zR} (hM : RSm hr) {l : Int} : ∀ (k : Nat) (hi : zI) (n : Int), k ≤ 4 → hi 37 0 2 = n → 0 ≤ n → n + k ≤ 400 →
    ∃ hi', RWv mX12_put 3 [some (.inr (some (37, 0))), some (.inl l), some (.inl (8 * (k : Int) - 8))] hi hr hi' ∧ hi' 37 0 2 = n + k ∧ (∀ i : Int, i < n → hi' 38 0 i = hi 38 0 i) ∧ (∀ i : Int, 0 ≤ i → i < (k : Int) → hi' 38 0 (n + i) = byt l (4 - k + i)) ∧ (∀ q, q ≠ 37 → q ≠ 38 → hi' q = hi q) ∧ ∀ j s : Int, ¬ (j = 0 ∧ s = 2) → hi' 37 j s = hi 37 j s := by
  intro k
  induction k with
  | zero =>
    intro hi n _ hn h0 h1
    refine ⟨hi, fun P hP => GX12_put_3 hM l _ ⟨fun _ => hP, fun h => absurd h (by omega)⟩, by simpa using hn, fun _ _ => rfl, fun i h2 h3 => absurd h3 (by omega), fun _ _ _ => rfl, fun _ _ _ => rfl⟩
  | succ k ih =>
    intro hi n hk hn h0 h1
    have e0 : (8 * ((k + 1 : Nat) : Int) - 8) = 8 * (k : Int) := by omega
    rw [e0]
    obtain ⟨hi', r1, r2, r3, r4, r5, r6⟩ := ih (zup (zup hi 38 0 (hi 37 0 2) (zi2b (zshr l (8 * (k : Int))))) 37 0 2 ((hi 37 0 2) + 1)) (n + 1) (by omega) (by rw [zup_s, hn]) (by omega) (by omega)
    refine ⟨hi', fun P hP => GX12_put_3 hM l _ ⟨fun h => absurd h (by omega), fun _ => ⟨⟨by omega, by omega⟩, ⟨by omega, by omega⟩, ⟨by omega, by omega⟩, ?_⟩⟩, by rw [r2]; omega, fun i hi0 => ?_, fun i h2 h3 => ?_, fun q hq2 hq3 => ?_, fun j s hs => ?_⟩
    · exact r1 P hP
    · rw [r3 i (by omega), zup_k _ _ _ _ _ _ (by decide), zup_f _ _ _ _ _ _ (by omega)]
    · by_cases hi0 : i = 0
      · subst hi0
        rw [r3 _ (by omega), zup_k _ _ _ _ _ _ (by decide), hn, Int.add_zero, zup_s, byt]
        congr 2
        omega
      · have := r4 (i - 1) (by omega) (by omega)
        rw [show n + 1 + (i - 1) = n + i by omega] at this
        rw [this]
        congr 1
        omega
    · rw [r5 q hq2 hq3, zup_kf _ _ _ _ hq2, zup_kf _ _ _ _ hq3]
    · rw [r6 j s hs, zup_v, if_neg hs, zup_k _ _ _ _ _ _ (by decide)]
