theorem and15 (x : Int32) : 0 ≤ (x &&& 15).toInt ∧ (x &&& 15).toInt < 16 := by
  have e : (x &&& 15).toInt = (x.toBitVec &&& 15#32).toInt := rfl
  have h : x.toBitVec.toNat &&& (15#32).toNat ≤ (15#32).toNat := Nat.and_le_right
  have h15 : (15#32).toNat = 15 := rfl
  rw [h15] at h
  rw [e, BitVec.toInt_eq_toNat_cond, BitVec.toNat_and, h15]
  generalize x.toBitVec.toNat &&& 15 = y at h ⊢
  split <;> constructor <;> omega
theorem ofNatI (n : Nat) : Int32.ofNat n = Int32.ofInt (n : Int) := Int32.ofInt_eq_ofNat.symm
section LAW
variable {p : Program} {l : Launch} {e : Env} {s : State} {m : MethodId} {below : List Frame} {meth : Method} {c : Code} {b L : Nat} {xs : Nat → Int32} {D : va_G} {cy : Nat → ClassId} {slots : Nat}
set_option maxRecDepth 100000 in
theorem law_sw (X : LX p s m meth c b L xs D cy) (hs : slots ≤ 7302250) {i : Int} {hi : zI} {hr : zR} {H : Heap} {locs : List Loc} {lsr : Array Slot} {Z : State → Prop} {y : Int32} (h0 : 0 ≤ i) (h6 : i + 6 ≤ L) (hl : LL s b i lsr) (R : RLb hi hr hi) (G : LG s D cy 174 hi hr H locs 174) (hy : 0 ≤ y.toInt ∧ y.toInt < 16)
    (nx : ∀ hi' hr' H' locs', RLb hi' hr' hi' → LG s D cy 174 hi' hr' H' locs' 174 → W p l e room_1 s m #[Value.ref b] below meth c H' locs' 174 slots Z (F0 m 526 lsr [])) :
    W p l e room_1 s m #[Value.ref b] below meth c H locs 174 slots Z (F0 m 33 lsr [.int y]) := by
  have x1 := X.1.1
  have x2 := X.1.2.1
  have d33 : decode code 33 = .ok (.tableswitch 493 0 13 #[71, 134, 157, 170, 183, 206, 239, 272, 295, 328, 361, 394, 437, 470], 71) := by decide +kernel
  rcases (show y.toInt = 0 ∨ y.toInt = 1 ∨ y.toInt = 2 ∨ y.toInt = 3 ∨ y.toInt = 4 ∨ y.toInt = 5 ∨ y.toInt = 6 ∨ y.toInt = 7 ∨ y.toInt = 8 ∨ y.toInt = 9 ∨ y.toInt = 10 ∨ y.toInt = 11 ∨ y.toInt = 12 ∨ y.toInt = 13 ∨ 13 < y.toInt by omega) with q | q | q | q | q | q | q | q | q | q | q | q | q | q | q
  · exact lv_tableIn (off := 71) (tgt := 104) x1 x2 d33 (by rw [q]; decide) (by rw [q]; decide) (by rw [q]; rfl) (by decide) (law_feed X G hs hl h0 h6 R nx)
  · exact lv_tableIn (off := 134) (tgt := 167) x1 x2 d33 (by rw [q]; decide) (by rw [q]; decide) (by rw [q]; rfl) (by decide) (law_back X G hs hl h0 h6 R nx)
  · exact lv_tableIn (off := 157) (tgt := 190) x1 x2 d33 (by rw [q]; decide) (by rw [q]; decide) (by rw [q]; rfl) (by decide) (law_read X G hs hl h0 h6 R nx)
  · exact lv_tableIn (off := 170) (tgt := 203) x1 x2 d33 (by rw [q]; decide) (by rw [q]; decide) (by rw [q]; rfl) (by decide) (law_place X G hs hl h0 h6 R nx)
  · exact lv_tableIn (off := 183) (tgt := 216) x1 x2 d33 (by rw [q]; decide) (by rw [q]; decide) (by rw [q]; rfl) (by decide) (law_fates X G hs hl h0 h6 R nx)
  · exact lv_tableIn (off := 206) (tgt := 239) x1 x2 d33 (by rw [q]; decide) (by rw [q]; decide) (by rw [q]; rfl) (by decide) (law_fate X G hs hl h0 h6 R nx)
  · exact lv_tableIn (off := 239) (tgt := 272) x1 x2 d33 (by rw [q]; decide) (by rw [q]; decide) (by rw [q]; rfl) (by decide) (law_task X G hs hl h0 h6 R nx)
  · exact lv_tableIn (off := 272) (tgt := 305) x1 x2 d33 (by rw [q]; decide) (by rw [q]; decide) (by rw [q]; rfl) (by decide) (law_run X G hs hl h0 h6 R nx)
  · exact lv_tableIn (off := 295) (tgt := 328) x1 x2 d33 (by rw [q]; decide) (by rw [q]; decide) (by rw [q]; rfl) (by decide) (law_cell X G hs hl h0 h6 R nx)
  · exact lv_tableIn (off := 328) (tgt := 361) x1 x2 d33 (by rw [q]; decide) (by rw [q]; decide) (by rw [q]; rfl) (by decide) (law_vehicle X G hs hl h0 h6 R nx)
  · exact lv_tableIn (off := 361) (tgt := 394) x1 x2 d33 (by rw [q]; decide) (by rw [q]; decide) (by rw [q]; rfl) (by decide) (law_trip X G hs hl h0 h6 R nx)
  · exact lv_tableIn (off := 394) (tgt := 427) x1 x2 d33 (by rw [q]; decide) (by rw [q]; decide) (by rw [q]; rfl) (by decide) (law_plan X G hs hl h0 h6 R nx)
  · exact lv_tableIn (off := 437) (tgt := 470) x1 x2 d33 (by rw [q]; decide) (by rw [q]; decide) (by rw [q]; rfl) (by decide) (law_told X G hs hl h0 h6 R nx)
  · exact lv_tableIn (off := 470) (tgt := 503) x1 x2 d33 (by rw [q]; decide) (by rw [q]; decide) (by rw [q]; rfl) (by decide) (law_count X G hs hl h0 h6 R nx)
  · exact lv_tableOut (tgt := 526) x1 x2 d33 (Or.inr q) (by decide) (nx hi hr H locs R G)
set_option maxRecDepth 100000 in
theorem law_loop (X : LX p s m meth c b L xs D cy) (hs : slots ≤ 7302250) : ∀ (n : Nat) (i : Int) (hi : zI) (hr : zR) (H : Heap) (locs : List Loc) (lsr : Array Slot), 0 ≤ i → i ≤ L → (L : Int) < i + n → LL s b i lsr → RLb hi hr hi → LG s D cy 174 hi hr H locs 174 → W p l e room_1 s m #[Value.ref b] below meth c H locs 174 slots (lw_Z below #[Value.ref b] s) (F0 m 18 lsr []) := by
  obtain ⟨⟨x1, x2, x3, x4, x5, x6, x7, x8, x9, x10⟩, hts, hK, hL⟩ := id X
  intro n
  induction n with
  | zero =>
    intro i hi hr H locs lsr h0 h1 h2
    exact absurd h2 (by omega)
  | succ n ih =>
    intro i hi hr H locs lsr h0 h1 h2 hl R G
    have hS := G.2.2.2.2
    have hbA : ¬ (fun q : Nat => s.heap.size ≤ q) b := Nat.not_le.mpr x8
    have eL : Int32.ofNat L - 6 = Int32.ofInt ((L : Int) - 6) := by
      rw [ofNatI, show (6 : Int32) = Int32.ofInt 6 from rfl, z_sub]
    refine lv_iload_n (k := 3) x1 x2 (by decide +kernel) rfl (lv_at hl 0 rfl) ?_
    refine lv_aload_n (k := 0) x1 x2 (by decide +kernel) rfl (lv_at hl 3 rfl) ?_
    refine va_slen x1 x2 x7 x8 hbA hS (by decide +kernel) ?_
    refine lv_bipush (n := 6) (v := 6) x1 x2 (by decide +kernel) (by decide) ?_
    refine lv_isub x1 x2 (by decide +kernel) ?_
    rw [eL]
    refine lv_icmp_gt (off := 508) (tgt := 532) x1 x2 (by decide +kernel) (by decide) (fun _ => ?_) (fun q => ?_)
    · refine lv_iconst (n := 1) (v := 1) x1 x2 (by decide +kernel) (by decide) ?_
      refine va_forget (fun q hq => hS.2.2 q hq) ?_
      refine W.widen (k := 600000) (n := 7302250) (by decide) hs ?_
      exact lw_ret x1 x2 x3 x9 (by decide +kernel)
    · rw [z_lt ⟨by omega, by omega⟩ ⟨by omega, by omega⟩] at q
      have h6 : i + 6 ≤ L := by omega
      refine lv_aload_n (k := 0) x1 x2 (by decide +kernel) rfl (lv_at hl 3 rfl) ?_
      refine lv_iload_n (k := 3) x1 x2 (by decide +kernel) rfl (lv_at hl 0 rfl) ?_
      refine va_sld x1 x2 x7 x8 hbA hS (z_in ⟨by omega, by omega⟩ h0 (by omega)) (by decide +kernel) ?_
      refine lv_bipush (n := 15) (v := 15) x1 x2 (by decide +kernel) (by decide) ?_
      refine lv_iand x1 x2 (by decide +kernel) ?_
      refine law_sw X hs h0 h6 hl R G (and15 _) (fun hi' hr' H' locs' R' G' => ?_)
      refine lv_iinc (k := 0) (v := Int32.ofInt (i + 6)) (lv' := [(3, .int (Int32.ofInt (i + 6))), (2, .ref (zA s.heap.size (37, 0))), (1, .ref (zA s.heap.size (1, 0))), (0, .ref b)]) x1 x2 (by decide +kernel) hl rfl (z_add _ _) (by decide) rfl (fun ls' hl' => ?_)
      refine lv_goto (off := -511) (tgt := 18) x1 x2 (by decide +kernel) (by decide) ?_
      exact ih (i + 6) hi' hr' H' locs' ls' (by omega) (by omega) (by omega) hl' R' G'
end LAW
