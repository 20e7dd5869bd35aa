def LL (s : State) (b : Nat) (i : Int) (lsr : Array Slot) : Prop := lv_has lsr 4 [(3, .int (Int32.ofInt i)), (2, .ref (zA s.heap.size (37, 0))), (1, .ref (zA s.heap.size (1, 0))), (0, .ref b)]
def LAr (xs : Nat → Int32) (i : Int) : Int := (xs (Int32.ofInt i).toNatClampNeg).toInt
section LAW
variable {p : Program} {l : Launch} {e : Env} {s : State} {m : MethodId} {below : List Frame} {meth : Method} {c : Code} {b L : Nat} {xs : Nat → Int32} {D : va_G} {cy : Nat → ClassId} {Z : State → Prop} {pc n cells slots : Nat} {hi : zI} {hr : zR} {H : Heap} {locs : List Loc} {lsr : Array Slot} {i : Int}
theorem law_arg {kx : Int} {st : List zV} (X : LX p s m meth c b L xs D cy) (hS : va_S (fun q => s.heap.size ≤ q) s.heap H locs) (hl : LL s b i lsr) (h0 : 0 ≤ i) (h1 : i + kx < L) (hk : 0 ≤ kx ∧ kx ≤ 5) (d0 : decode code pc = .ok (.aload_n 0, 1)) (d1 : decode code (pc + 1) = .ok (.iload_n 3, 1)) (d2 : decode code (pc + 2) = .ok (.iconst kx, 1)) (d3 : decode code (pc + 3) = .ok (.iadd, 1)) (d4 : decode code (pc + 4) = .ok (.iaload, 1))
    (nx : W p l e room_1 s m #[Value.ref b] below meth c H locs cells slots Z (F0 m (pc + 5) lsr ((.inl (LAr xs (i + kx)) :: st).map (zv s.heap.size)))) :
    W p l e room_1 s m #[Value.ref b] below meth c H locs cells slots Z (F0 m pc lsr (st.map (zv s.heap.size))) := by
  obtain ⟨⟨x1, x2, x3, x4, x5, x6, x7, x8, x9, x10⟩, hts, hK, hL⟩ := X
  refine lv_aload_n x1 x2 d0 rfl (lv_at hl 3 rfl) ?_
  refine lv_iload_n x1 x2 d1 rfl (lv_at hl 0 rfl) ?_
  refine lv_iconst (v := Int32.ofInt kx) x1 x2 d2 rfl ?_
  refine lv_iadd x1 x2 d3 ?_
  rw [z_add]
  refine va_sld x1 x2 x7 x8 (fun h => Nat.lt_irrefl _ (Nat.lt_of_lt_of_le x8 h)) hS (z_in ⟨by omega, by omega⟩ (by omega) h1) d4 ?_
  have e1 : (zv s.heap.size (.inl (LAr xs (i + kx)))) = .int (xs (Int32.ofInt (i + kx)).toNatClampNeg) := by
    show Value.int (Int32.ofInt (xs (Int32.ofInt (i + kx)).toNatClampNeg).toInt) = _
    rw [Int32.ofInt_toInt]
  have nx2 : W p l e room_1 s m #[Value.ref b] below meth c H locs cells slots Z (F0 m (pc + 5) lsr (zv s.heap.size (.inl (LAr xs (i + kx))) :: st.map (zv s.heap.size))) := nx
  rw [e1] at nx2
  exact nx2
theorem zv_1 : zval 174 (1, 0) := ⟨by decide +kernel, by decide +kernel⟩
theorem zv_37 : zval 174 (37, 0) := ⟨by decide +kernel, by decide +kernel⟩
set_option maxRecDepth 100000 in
theorem law_feed (X : LX p s m meth c b L xs D cy) (G : LG s D cy 174 hi hr H locs 174) (hs : slots ≤ 7302250) (hl : LL s b i lsr) (h0 : 0 ≤ i) (h6 : i + 6 ≤ L) (R : RLb hi hr hi) (nx : ∀ hi' hr' H' locs', RLb hi' hr' hi' → LG s D cy 174 hi' hr' H' locs' 174 → W p l e room_1 s m #[Value.ref b] below meth c H' locs' 174 slots Z (F0 m 526 lsr [])) :
    W p l e room_1 s m #[Value.ref b] below meth c H locs 174 slots Z (F0 m 104 lsr []) := by
  have x1 := X.1.1
  have x2 := X.1.2.1
  have Sm : WPm _ (.inr (some (1, 0)) :: [.inl (LAr xs (i + 1)), .inl (LAr xs (i + 2)), .inl (LAr xs (i + 3)), .inl (LAr xs (i + 4)), .inl (LAr xs (i + 5))]) hi hr _ := sim_feed R (z_toI _) (z_toI _) (z_toI _) (z_toI _) (z_toI _) (fun _ hi' hr' => RLb hi' hr' hi') (fun _ _ _ h => h)
  refine lv_aload_n (k := 1) x1 x2 (by decide +kernel) rfl (lv_at hl 2 rfl) ?_
  refine law_arg (pc := 105) (kx := 1) (st := [.inr (some (1, 0))]) X G.2.2.2.2 hl h0 (by omega) (by decide) (by decide +kernel) (by decide +kernel) (by decide +kernel) (by decide +kernel) (by decide +kernel) ?_
  refine law_arg (pc := 110) (kx := 2) (st := [.inl (LAr xs (i + 1)), .inr (some (1, 0))]) X G.2.2.2.2 hl h0 (by omega) (by decide) (by decide +kernel) (by decide +kernel) (by decide +kernel) (by decide +kernel) (by decide +kernel) ?_
  refine law_arg (pc := 115) (kx := 3) (st := [.inl (LAr xs (i + 2)), .inl (LAr xs (i + 1)), .inr (some (1, 0))]) X G.2.2.2.2 hl h0 (by omega) (by decide) (by decide +kernel) (by decide +kernel) (by decide +kernel) (by decide +kernel) (by decide +kernel) ?_
  refine law_arg (pc := 120) (kx := 4) (st := [.inl (LAr xs (i + 3)), .inl (LAr xs (i + 2)), .inl (LAr xs (i + 1)), .inr (some (1, 0))]) X G.2.2.2.2 hl h0 (by omega) (by decide) (by decide +kernel) (by decide +kernel) (by decide +kernel) (by decide +kernel) (by decide +kernel) ?_
  refine law_arg (pc := 125) (kx := 5) (st := [.inl (LAr xs (i + 4)), .inl (LAr xs (i + 3)), .inl (LAr xs (i + 2)), .inl (LAr xs (i + 1)), .inr (some (1, 0))]) X G.2.2.2.2 hl h0 (by omega) (by decide) (by decide +kernel) (by decide +kernel) (by decide +kernel) (by decide +kernel) (by decide +kernel) ?_
  refine law_call (pc := 130) (vs := [.inl (LAr xs (i + 1)), .inl (LAr xs (i + 2)), .inl (LAr xs (i + 3)), .inl (LAr xs (i + 4)), .inl (LAr xs (i + 5))]) (st := []) (k := 1) (j := 0) (y' := mX11_feed) X G hl.1 (by decide) hs (zok_cons (v := .inl (LAr xs (i + 1))) (z_toI _) (zok_cons (v := .inl (LAr xs (i + 2))) (z_toI _) (zok_cons (v := .inl (LAr xs (i + 3))) (z_toI _) (zok_cons (v := .inl (LAr xs (i + 4))) (z_toI _) (zok_cons (v := .inl (LAr xs (i + 5))) (z_toI _) (fun _ h => by cases h)))))) zv_1 (by decide +kernel) okX11_feed ⟨by decide, by decide⟩ lm_L_13 ivX11_feed zSh_1 zc_11 (Nat.le_of_ble_eq_true rfl) ⟨rfl, rfl⟩ Sm (fun r1 hi1 hr1 H1 locs1 q1 hok1 G1 => ?_)
  obtain ⟨x, rfl, q⟩ := q1
  refine lv_aload_n (k := 2) x1 x2 (by decide +kernel) rfl (lv_at hl 1 rfl) ?_
  refine law_arg (pc := 134) (kx := 1) (st := [.inr (some (37, 0)), .inl x]) X G1.2.2.2.2 hl h0 (by omega) (by decide) (by decide +kernel) (by decide +kernel) (by decide +kernel) (by decide +kernel) (by decide +kernel) ?_
  refine law_arg (pc := 139) (kx := 2) (st := [.inl (LAr xs (i + 1)), .inr (some (37, 0)), .inl x]) X G1.2.2.2.2 hl h0 (by omega) (by decide) (by decide +kernel) (by decide +kernel) (by decide +kernel) (by decide +kernel) (by decide +kernel) ?_
  refine law_arg (pc := 144) (kx := 3) (st := [.inl (LAr xs (i + 2)), .inl (LAr xs (i + 1)), .inr (some (37, 0)), .inl x]) X G1.2.2.2.2 hl h0 (by omega) (by decide) (by decide +kernel) (by decide +kernel) (by decide +kernel) (by decide +kernel) (by decide +kernel) ?_
  refine law_arg (pc := 149) (kx := 4) (st := [.inl (LAr xs (i + 3)), .inl (LAr xs (i + 2)), .inl (LAr xs (i + 1)), .inr (some (37, 0)), .inl x]) X G1.2.2.2.2 hl h0 (by omega) (by decide) (by decide +kernel) (by decide +kernel) (by decide +kernel) (by decide +kernel) (by decide +kernel) ?_
  refine law_arg (pc := 154) (kx := 5) (st := [.inl (LAr xs (i + 4)), .inl (LAr xs (i + 3)), .inl (LAr xs (i + 2)), .inl (LAr xs (i + 1)), .inr (some (37, 0)), .inl x]) X G1.2.2.2.2 hl h0 (by omega) (by decide) (by decide +kernel) (by decide +kernel) (by decide +kernel) (by decide +kernel) (by decide +kernel) ?_
  refine law_call (pc := 159) (vs := [.inl (LAr xs (i + 1)), .inl (LAr xs (i + 2)), .inl (LAr xs (i + 3)), .inl (LAr xs (i + 4)), .inl (LAr xs (i + 5))]) (st := [.inl x]) (k := 37) (j := 0) (y' := mX12_feed) X G1 hl.1 (by decide) hs (zok_cons (v := .inl (LAr xs (i + 1))) (z_toI _) (zok_cons (v := .inl (LAr xs (i + 2))) (z_toI _) (zok_cons (v := .inl (LAr xs (i + 3))) (z_toI _) (zok_cons (v := .inl (LAr xs (i + 4))) (z_toI _) (zok_cons (v := .inl (LAr xs (i + 5))) (z_toI _) (fun _ h => by cases h)))))) zv_37 (by decide +kernel) okX12_feed ⟨by decide, by decide⟩ lm_L_17 ivX12_feed zSh_37 zc_12 (Nat.le_of_ble_eq_true rfl) ⟨rfl, rfl⟩ q (fun r2 hi2 hr2 H2 locs2 q2 hok2 G2 => ?_)
  obtain ⟨rfl, R2⟩ := q2
  exact lv_icmp_eq (off := 364) (tgt := 526) x1 x2 (by decide +kernel) (by decide) (fun _ => nx hi2 hr2 H2 locs2 R2 G2) (fun h => absurd rfl h)
set_option maxRecDepth 100000 in
theorem law_back (X : LX p s m meth c b L xs D cy) (G : LG s D cy 174 hi hr H locs 174) (hs : slots ≤ 7302250) (hl : LL s b i lsr) (h0 : 0 ≤ i) (h6 : i + 6 ≤ L) (R : RLb hi hr hi) (nx : ∀ hi' hr' H' locs', RLb hi' hr' hi' → LG s D cy 174 hi' hr' H' locs' 174 → W p l e room_1 s m #[Value.ref b] below meth c H' locs' 174 slots Z (F0 m 526 lsr [])) :
    W p l e room_1 s m #[Value.ref b] below meth c H locs 174 slots Z (F0 m 167 lsr []) := by
  have x1 := X.1.1
  have x2 := X.1.2.1
  have Sm : WPm _ (.inr (some (1, 0)) :: [.inl (LAr xs (i + 1))]) hi hr _ := sim_back R _ (fun _ hi' hr' => RLb hi' hr' hi') (fun _ _ _ h => h)
  refine lv_aload_n (k := 1) x1 x2 (by decide +kernel) rfl (lv_at hl 2 rfl) ?_
  refine law_arg (pc := 168) (kx := 1) (st := [.inr (some (1, 0))]) X G.2.2.2.2 hl h0 (by omega) (by decide) (by decide +kernel) (by decide +kernel) (by decide +kernel) (by decide +kernel) (by decide +kernel) ?_
  refine law_call (pc := 173) (vs := [.inl (LAr xs (i + 1))]) (st := []) (k := 1) (j := 0) (y' := mX11_back) X G hl.1 (by decide) hs (zok_cons (v := .inl (LAr xs (i + 1))) (z_toI _) (fun _ h => by cases h)) zv_1 (by decide +kernel) okX11_back ⟨by decide, by decide⟩ lm_L_18 ivX11_back zSh_1 zc_11 (Nat.le_of_ble_eq_true rfl) ⟨rfl, rfl⟩ Sm (fun r1 hi1 hr1 H1 locs1 q1 hok1 G1 => ?_)
  obtain ⟨x, rfl, q⟩ := q1
  refine lv_aload_n (k := 2) x1 x2 (by decide +kernel) rfl (lv_at hl 1 rfl) ?_
  refine law_arg (pc := 177) (kx := 1) (st := [.inr (some (37, 0)), .inl x]) X G1.2.2.2.2 hl h0 (by omega) (by decide) (by decide +kernel) (by decide +kernel) (by decide +kernel) (by decide +kernel) (by decide +kernel) ?_
  refine law_call (pc := 182) (vs := [.inl (LAr xs (i + 1))]) (st := [.inl x]) (k := 37) (j := 0) (y' := mX12_back) X G1 hl.1 (by decide) hs (zok_cons (v := .inl (LAr xs (i + 1))) (z_toI _) (fun _ h => by cases h)) zv_37 (by decide +kernel) okX12_back ⟨by decide, by decide⟩ lm_L_22 ivX12_back zSh_37 zc_12 (Nat.le_of_ble_eq_true rfl) ⟨rfl, rfl⟩ q (fun r2 hi2 hr2 H2 locs2 q2 hok2 G2 => ?_)
  obtain ⟨rfl, R2⟩ := q2
  exact lv_icmp_eq (off := 341) (tgt := 526) x1 x2 (by decide +kernel) (by decide) (fun _ => nx hi2 hr2 H2 locs2 R2 G2) (fun h => absurd rfl h)
set_option maxRecDepth 100000 in
theorem law_read (X : LX p s m meth c b L xs D cy) (G : LG s D cy 174 hi hr H locs 174) (hs : slots ≤ 7302250) (hl : LL s b i lsr) (h0 : 0 ≤ i) (h6 : i + 6 ≤ L) (R : RLb hi hr hi) (nx : ∀ hi' hr' H' locs', RLb hi' hr' hi' → LG s D cy 174 hi' hr' H' locs' 174 → W p l e room_1 s m #[Value.ref b] below meth c H' locs' 174 slots Z (F0 m 526 lsr [])) :
    W p l e room_1 s m #[Value.ref b] below meth c H locs 174 slots Z (F0 m 190 lsr []) := by
  have x1 := X.1.1
  have x2 := X.1.2.1
  have Sm : WPm _ (.inr (some (1, 0)) :: []) hi hr _ := sim_read R  (fun _ hi' hr' => RLb hi' hr' hi') (fun _ _ _ h => h)
  refine lv_aload_n (k := 1) x1 x2 (by decide +kernel) rfl (lv_at hl 2 rfl) ?_
  refine law_call (pc := 191) (vs := []) (st := []) (k := 1) (j := 0) (y' := mX11_read) X G hl.1 (by decide) hs (fun _ h => by cases h) zv_1 (by decide +kernel) okX11_read ⟨by decide, by decide⟩ lm_L_23 ivX11_read zSh_1 zc_11 (Nat.le_of_ble_eq_true rfl) ⟨rfl, rfl⟩ Sm (fun r1 hi1 hr1 H1 locs1 q1 hok1 G1 => ?_)
  obtain ⟨x, rfl, q⟩ := q1
  refine lv_aload_n (k := 2) x1 x2 (by decide +kernel) rfl (lv_at hl 1 rfl) ?_
  refine law_call (pc := 195) (vs := []) (st := [.inl x]) (k := 37) (j := 0) (y' := mX12_read) X G1 hl.1 (by decide) hs (fun _ h => by cases h) zv_37 (by decide +kernel) okX12_read ⟨by decide, by decide⟩ lm_L_27 ivX12_read zSh_37 zc_12 (Nat.le_of_ble_eq_true rfl) ⟨rfl, rfl⟩ q (fun r2 hi2 hr2 H2 locs2 q2 hok2 G2 => ?_)
  obtain ⟨rfl, R2⟩ := q2
  exact lv_icmp_eq (off := 328) (tgt := 526) x1 x2 (by decide +kernel) (by decide) (fun _ => nx hi2 hr2 H2 locs2 R2 G2) (fun h => absurd rfl h)
set_option maxRecDepth 100000 in
theorem law_place (X : LX p s m meth c b L xs D cy) (G : LG s D cy 174 hi hr H locs 174) (hs : slots ≤ 7302250) (hl : LL s b i lsr) (h0 : 0 ≤ i) (h6 : i + 6 ≤ L) (R : RLb hi hr hi) (nx : ∀ hi' hr' H' locs', RLb hi' hr' hi' → LG s D cy 174 hi' hr' H' locs' 174 → W p l e room_1 s m #[Value.ref b] below meth c H' locs' 174 slots Z (F0 m 526 lsr [])) :
    W p l e room_1 s m #[Value.ref b] below meth c H locs 174 slots Z (F0 m 203 lsr []) := by
  have x1 := X.1.1
  have x2 := X.1.2.1
  have Sm : WPm _ (.inr (some (1, 0)) :: []) hi hr _ := sim_place R  (fun _ hi' hr' => RLb hi' hr' hi') (fun _ _ _ h => h)
  refine lv_aload_n (k := 1) x1 x2 (by decide +kernel) rfl (lv_at hl 2 rfl) ?_
  refine law_call (pc := 204) (vs := []) (st := []) (k := 1) (j := 0) (y' := mX11_place) X G hl.1 (by decide) hs (fun _ h => by cases h) zv_1 (by decide +kernel) okX11_place ⟨by decide, by decide⟩ lm_L_28 ivX11_place zSh_1 zc_11 (Nat.le_of_ble_eq_true rfl) ⟨rfl, rfl⟩ Sm (fun r1 hi1 hr1 H1 locs1 q1 hok1 G1 => ?_)
  obtain ⟨x, rfl, q⟩ := q1
  refine lv_aload_n (k := 2) x1 x2 (by decide +kernel) rfl (lv_at hl 1 rfl) ?_
  refine law_call (pc := 208) (vs := []) (st := [.inl x]) (k := 37) (j := 0) (y' := mX12_place) X G1 hl.1 (by decide) hs (fun _ h => by cases h) zv_37 (by decide +kernel) okX12_place ⟨by decide, by decide⟩ lm_L_31 ivX12_place zSh_37 zc_12 (Nat.le_of_ble_eq_true rfl) ⟨rfl, rfl⟩ q (fun r2 hi2 hr2 H2 locs2 q2 hok2 G2 => ?_)
  obtain ⟨rfl, R2⟩ := q2
  exact lv_icmp_eq (off := 315) (tgt := 526) x1 x2 (by decide +kernel) (by decide) (fun _ => nx hi2 hr2 H2 locs2 R2 G2) (fun h => absurd rfl h)
set_option maxRecDepth 100000 in
theorem law_fates (X : LX p s m meth c b L xs D cy) (G : LG s D cy 174 hi hr H locs 174) (hs : slots ≤ 7302250) (hl : LL s b i lsr) (h0 : 0 ≤ i) (h6 : i + 6 ≤ L) (R : RLb hi hr hi) (nx : ∀ hi' hr' H' locs', RLb hi' hr' hi' → LG s D cy 174 hi' hr' H' locs' 174 → W p l e room_1 s m #[Value.ref b] below meth c H' locs' 174 slots Z (F0 m 526 lsr [])) :
    W p l e room_1 s m #[Value.ref b] below meth c H locs 174 slots Z (F0 m 216 lsr []) := by
  have x1 := X.1.1
  have x2 := X.1.2.1
  have Sm : WPm _ (.inr (some (1, 0)) :: [.inl (LAr xs (i + 1))]) hi hr _ := sim_fates R _ (fun _ hi' hr' => RLb hi' hr' hi') (fun _ _ _ h => h)
  refine lv_aload_n (k := 1) x1 x2 (by decide +kernel) rfl (lv_at hl 2 rfl) ?_
  refine law_arg (pc := 217) (kx := 1) (st := [.inr (some (1, 0))]) X G.2.2.2.2 hl h0 (by omega) (by decide) (by decide +kernel) (by decide +kernel) (by decide +kernel) (by decide +kernel) (by decide +kernel) ?_
  refine law_call (pc := 222) (vs := [.inl (LAr xs (i + 1))]) (st := []) (k := 1) (j := 0) (y' := mX11_fates) X G hl.1 (by decide) hs (zok_cons (v := .inl (LAr xs (i + 1))) (z_toI _) (fun _ h => by cases h)) zv_1 (by decide +kernel) okX11_fates ⟨by decide, by decide⟩ lm_L_32 ivX11_fates zSh_1 zc_11 (Nat.le_of_ble_eq_true rfl) ⟨rfl, rfl⟩ Sm (fun r1 hi1 hr1 H1 locs1 q1 hok1 G1 => ?_)
  obtain ⟨x, rfl, q⟩ := q1
  refine lv_aload_n (k := 2) x1 x2 (by decide +kernel) rfl (lv_at hl 1 rfl) ?_
  refine law_arg (pc := 226) (kx := 1) (st := [.inr (some (37, 0)), .inl x]) X G1.2.2.2.2 hl h0 (by omega) (by decide) (by decide +kernel) (by decide +kernel) (by decide +kernel) (by decide +kernel) (by decide +kernel) ?_
  refine law_call (pc := 231) (vs := [.inl (LAr xs (i + 1))]) (st := [.inl x]) (k := 37) (j := 0) (y' := mX12_fates) X G1 hl.1 (by decide) hs (zok_cons (v := .inl (LAr xs (i + 1))) (z_toI _) (fun _ h => by cases h)) zv_37 (by decide +kernel) okX12_fates ⟨by decide, by decide⟩ lm_L_36 ivX12_fates zSh_37 zc_12 (Nat.le_of_ble_eq_true rfl) ⟨rfl, rfl⟩ q (fun r2 hi2 hr2 H2 locs2 q2 hok2 G2 => ?_)
  obtain ⟨rfl, R2⟩ := q2
  exact lv_icmp_eq (off := 292) (tgt := 526) x1 x2 (by decide +kernel) (by decide) (fun _ => nx hi2 hr2 H2 locs2 R2 G2) (fun h => absurd rfl h)
set_option maxRecDepth 100000 in
theorem law_fate (X : LX p s m meth c b L xs D cy) (G : LG s D cy 174 hi hr H locs 174) (hs : slots ≤ 7302250) (hl : LL s b i lsr) (h0 : 0 ≤ i) (h6 : i + 6 ≤ L) (R : RLb hi hr hi) (nx : ∀ hi' hr' H' locs', RLb hi' hr' hi' → LG s D cy 174 hi' hr' H' locs' 174 → W p l e room_1 s m #[Value.ref b] below meth c H' locs' 174 slots Z (F0 m 526 lsr [])) :
    W p l e room_1 s m #[Value.ref b] below meth c H locs 174 slots Z (F0 m 239 lsr []) := by
  have x1 := X.1.1
  have x2 := X.1.2.1
  have Sm : WPm _ (.inr (some (1, 0)) :: [.inl (LAr xs (i + 1)), .inl (LAr xs (i + 2))]) hi hr _ := sim_fate R _ _ (fun _ hi' hr' => RLb hi' hr' hi') (fun _ _ _ h => h)
  refine lv_aload_n (k := 1) x1 x2 (by decide +kernel) rfl (lv_at hl 2 rfl) ?_
  refine law_arg (pc := 240) (kx := 1) (st := [.inr (some (1, 0))]) X G.2.2.2.2 hl h0 (by omega) (by decide) (by decide +kernel) (by decide +kernel) (by decide +kernel) (by decide +kernel) (by decide +kernel) ?_
  refine law_arg (pc := 245) (kx := 2) (st := [.inl (LAr xs (i + 1)), .inr (some (1, 0))]) X G.2.2.2.2 hl h0 (by omega) (by decide) (by decide +kernel) (by decide +kernel) (by decide +kernel) (by decide +kernel) (by decide +kernel) ?_
  refine law_call (pc := 250) (vs := [.inl (LAr xs (i + 1)), .inl (LAr xs (i + 2))]) (st := []) (k := 1) (j := 0) (y' := mX11_fate) X G hl.1 (by decide) hs (zok_cons (v := .inl (LAr xs (i + 1))) (z_toI _) (zok_cons (v := .inl (LAr xs (i + 2))) (z_toI _) (fun _ h => by cases h))) zv_1 (by decide +kernel) okX11_fate ⟨by decide, by decide⟩ lm_L_37 ivX11_fate zSh_1 zc_11 (Nat.le_of_ble_eq_true rfl) ⟨rfl, rfl⟩ Sm (fun r1 hi1 hr1 H1 locs1 q1 hok1 G1 => ?_)
  obtain ⟨x, rfl, q⟩ := q1
  refine lv_aload_n (k := 2) x1 x2 (by decide +kernel) rfl (lv_at hl 1 rfl) ?_
  refine law_arg (pc := 254) (kx := 1) (st := [.inr (some (37, 0)), .inl x]) X G1.2.2.2.2 hl h0 (by omega) (by decide) (by decide +kernel) (by decide +kernel) (by decide +kernel) (by decide +kernel) (by decide +kernel) ?_
  refine law_arg (pc := 259) (kx := 2) (st := [.inl (LAr xs (i + 1)), .inr (some (37, 0)), .inl x]) X G1.2.2.2.2 hl h0 (by omega) (by decide) (by decide +kernel) (by decide +kernel) (by decide +kernel) (by decide +kernel) (by decide +kernel) ?_
  refine law_call (pc := 264) (vs := [.inl (LAr xs (i + 1)), .inl (LAr xs (i + 2))]) (st := [.inl x]) (k := 37) (j := 0) (y' := mX12_fate) X G1 hl.1 (by decide) hs (zok_cons (v := .inl (LAr xs (i + 1))) (z_toI _) (zok_cons (v := .inl (LAr xs (i + 2))) (z_toI _) (fun _ h => by cases h))) zv_37 (by decide +kernel) okX12_fate ⟨by decide, by decide⟩ lm_L_41 ivX12_fate zSh_37 zc_12 (Nat.le_of_ble_eq_true rfl) ⟨rfl, rfl⟩ q (fun r2 hi2 hr2 H2 locs2 q2 hok2 G2 => ?_)
  obtain ⟨rfl, R2⟩ := q2
  exact lv_icmp_eq (off := 259) (tgt := 526) x1 x2 (by decide +kernel) (by decide) (fun _ => nx hi2 hr2 H2 locs2 R2 G2) (fun h => absurd rfl h)
set_option maxRecDepth 100000 in
theorem law_task (X : LX p s m meth c b L xs D cy) (G : LG s D cy 174 hi hr H locs 174) (hs : slots ≤ 7302250) (hl : LL s b i lsr) (h0 : 0 ≤ i) (h6 : i + 6 ≤ L) (R : RLb hi hr hi) (nx : ∀ hi' hr' H' locs', RLb hi' hr' hi' → LG s D cy 174 hi' hr' H' locs' 174 → W p l e room_1 s m #[Value.ref b] below meth c H' locs' 174 slots Z (F0 m 526 lsr [])) :
    W p l e room_1 s m #[Value.ref b] below meth c H locs 174 slots Z (F0 m 272 lsr []) := by
  have x1 := X.1.1
  have x2 := X.1.2.1
  have Sm : WPm _ (.inr (some (1, 0)) :: [.inl (LAr xs (i + 1)), .inl (LAr xs (i + 2))]) hi hr _ := sim_task R _ _ (fun _ hi' hr' => RLb hi' hr' hi') (fun _ _ _ h => h)
  refine lv_aload_n (k := 1) x1 x2 (by decide +kernel) rfl (lv_at hl 2 rfl) ?_
  refine law_arg (pc := 273) (kx := 1) (st := [.inr (some (1, 0))]) X G.2.2.2.2 hl h0 (by omega) (by decide) (by decide +kernel) (by decide +kernel) (by decide +kernel) (by decide +kernel) (by decide +kernel) ?_
  refine law_arg (pc := 278) (kx := 2) (st := [.inl (LAr xs (i + 1)), .inr (some (1, 0))]) X G.2.2.2.2 hl h0 (by omega) (by decide) (by decide +kernel) (by decide +kernel) (by decide +kernel) (by decide +kernel) (by decide +kernel) ?_
  refine law_call (pc := 283) (vs := [.inl (LAr xs (i + 1)), .inl (LAr xs (i + 2))]) (st := []) (k := 1) (j := 0) (y' := mX11_task) X G hl.1 (by decide) hs (zok_cons (v := .inl (LAr xs (i + 1))) (z_toI _) (zok_cons (v := .inl (LAr xs (i + 2))) (z_toI _) (fun _ h => by cases h))) zv_1 (by decide +kernel) okX11_task ⟨by decide, by decide⟩ lm_L_42 ivX11_task zSh_1 zc_11 (Nat.le_of_ble_eq_true rfl) ⟨rfl, rfl⟩ Sm (fun r1 hi1 hr1 H1 locs1 q1 hok1 G1 => ?_)
  obtain ⟨x, rfl, q⟩ := q1
  refine lv_aload_n (k := 2) x1 x2 (by decide +kernel) rfl (lv_at hl 1 rfl) ?_
  refine law_arg (pc := 287) (kx := 1) (st := [.inr (some (37, 0)), .inl x]) X G1.2.2.2.2 hl h0 (by omega) (by decide) (by decide +kernel) (by decide +kernel) (by decide +kernel) (by decide +kernel) (by decide +kernel) ?_
  refine law_arg (pc := 292) (kx := 2) (st := [.inl (LAr xs (i + 1)), .inr (some (37, 0)), .inl x]) X G1.2.2.2.2 hl h0 (by omega) (by decide) (by decide +kernel) (by decide +kernel) (by decide +kernel) (by decide +kernel) (by decide +kernel) ?_
  refine law_call (pc := 297) (vs := [.inl (LAr xs (i + 1)), .inl (LAr xs (i + 2))]) (st := [.inl x]) (k := 37) (j := 0) (y' := mX12_task) X G1 hl.1 (by decide) hs (zok_cons (v := .inl (LAr xs (i + 1))) (z_toI _) (zok_cons (v := .inl (LAr xs (i + 2))) (z_toI _) (fun _ h => by cases h))) zv_37 (by decide +kernel) okX12_task ⟨by decide, by decide⟩ lm_L_46 ivX12_task zSh_37 zc_12 (Nat.le_of_ble_eq_true rfl) ⟨rfl, rfl⟩ q (fun r2 hi2 hr2 H2 locs2 q2 hok2 G2 => ?_)
  obtain ⟨rfl, R2⟩ := q2
  exact lv_icmp_eq (off := 226) (tgt := 526) x1 x2 (by decide +kernel) (by decide) (fun _ => nx hi2 hr2 H2 locs2 R2 G2) (fun h => absurd rfl h)
set_option maxRecDepth 100000 in
theorem law_run (X : LX p s m meth c b L xs D cy) (G : LG s D cy 174 hi hr H locs 174) (hs : slots ≤ 7302250) (hl : LL s b i lsr) (h0 : 0 ≤ i) (h6 : i + 6 ≤ L) (R : RLb hi hr hi) (nx : ∀ hi' hr' H' locs', RLb hi' hr' hi' → LG s D cy 174 hi' hr' H' locs' 174 → W p l e room_1 s m #[Value.ref b] below meth c H' locs' 174 slots Z (F0 m 526 lsr [])) :
    W p l e room_1 s m #[Value.ref b] below meth c H locs 174 slots Z (F0 m 305 lsr []) := by
  have x1 := X.1.1
  have x2 := X.1.2.1
  have Sm : WPm _ (.inr (some (1, 0)) :: [.inl (LAr xs (i + 1))]) hi hr _ := sim_run R _ (z_toI _) (fun _ hi' hr' => RLb hi' hr' hi') (fun _ _ _ h => h)
  refine lv_aload_n (k := 1) x1 x2 (by decide +kernel) rfl (lv_at hl 2 rfl) ?_
  refine law_arg (pc := 306) (kx := 1) (st := [.inr (some (1, 0))]) X G.2.2.2.2 hl h0 (by omega) (by decide) (by decide +kernel) (by decide +kernel) (by decide +kernel) (by decide +kernel) (by decide +kernel) ?_
  refine law_call (pc := 311) (vs := [.inl (LAr xs (i + 1))]) (st := []) (k := 1) (j := 0) (y' := mX11_run) X G hl.1 (by decide) hs (zok_cons (v := .inl (LAr xs (i + 1))) (z_toI _) (fun _ h => by cases h)) zv_1 (by decide +kernel) okX11_run ⟨by decide, by decide⟩ lm_L_47 ivX11_run zSh_1 zc_11 (Nat.le_of_ble_eq_true rfl) ⟨rfl, rfl⟩ Sm (fun r1 hi1 hr1 H1 locs1 q1 hok1 G1 => ?_)
  obtain ⟨x, rfl, q⟩ := q1
  refine lv_aload_n (k := 2) x1 x2 (by decide +kernel) rfl (lv_at hl 1 rfl) ?_
  refine law_arg (pc := 315) (kx := 1) (st := [.inr (some (37, 0)), .inl x]) X G1.2.2.2.2 hl h0 (by omega) (by decide) (by decide +kernel) (by decide +kernel) (by decide +kernel) (by decide +kernel) (by decide +kernel) ?_
  refine law_call (pc := 320) (vs := [.inl (LAr xs (i + 1))]) (st := [.inl x]) (k := 37) (j := 0) (y' := mX12_run) X G1 hl.1 (by decide) hs (zok_cons (v := .inl (LAr xs (i + 1))) (z_toI _) (fun _ h => by cases h)) zv_37 (by decide +kernel) okX12_run ⟨by decide, by decide⟩ lm_L_50 ivX12_run zSh_37 zc_12 (Nat.le_of_ble_eq_true rfl) ⟨rfl, rfl⟩ q (fun r2 hi2 hr2 H2 locs2 q2 hok2 G2 => ?_)
  obtain ⟨rfl, R2⟩ := q2
  exact lv_icmp_eq (off := 203) (tgt := 526) x1 x2 (by decide +kernel) (by decide) (fun _ => nx hi2 hr2 H2 locs2 R2 G2) (fun h => absurd rfl h)
set_option maxRecDepth 100000 in
theorem law_cell (X : LX p s m meth c b L xs D cy) (G : LG s D cy 174 hi hr H locs 174) (hs : slots ≤ 7302250) (hl : LL s b i lsr) (h0 : 0 ≤ i) (h6 : i + 6 ≤ L) (R : RLb hi hr hi) (nx : ∀ hi' hr' H' locs', RLb hi' hr' hi' → LG s D cy 174 hi' hr' H' locs' 174 → W p l e room_1 s m #[Value.ref b] below meth c H' locs' 174 slots Z (F0 m 526 lsr [])) :
    W p l e room_1 s m #[Value.ref b] below meth c H locs 174 slots Z (F0 m 328 lsr []) := by
  have x1 := X.1.1
  have x2 := X.1.2.1
  have Sm : WPm _ (.inr (some (1, 0)) :: [.inl (LAr xs (i + 1)), .inl (LAr xs (i + 2))]) hi hr _ := sim_cell R _ _ (fun _ hi' hr' => RLb hi' hr' hi') (fun _ _ _ h => h)
  refine lv_aload_n (k := 1) x1 x2 (by decide +kernel) rfl (lv_at hl 2 rfl) ?_
  refine law_arg (pc := 329) (kx := 1) (st := [.inr (some (1, 0))]) X G.2.2.2.2 hl h0 (by omega) (by decide) (by decide +kernel) (by decide +kernel) (by decide +kernel) (by decide +kernel) (by decide +kernel) ?_
  refine law_arg (pc := 334) (kx := 2) (st := [.inl (LAr xs (i + 1)), .inr (some (1, 0))]) X G.2.2.2.2 hl h0 (by omega) (by decide) (by decide +kernel) (by decide +kernel) (by decide +kernel) (by decide +kernel) (by decide +kernel) ?_
  refine law_call (pc := 339) (vs := [.inl (LAr xs (i + 1)), .inl (LAr xs (i + 2))]) (st := []) (k := 1) (j := 0) (y' := mX11_cell) X G hl.1 (by decide) hs (zok_cons (v := .inl (LAr xs (i + 1))) (z_toI _) (zok_cons (v := .inl (LAr xs (i + 2))) (z_toI _) (fun _ h => by cases h))) zv_1 (by decide +kernel) okX11_cell ⟨by decide, by decide⟩ lm_L_51 ivX11_cell zSh_1 zc_11 (Nat.le_of_ble_eq_true rfl) ⟨rfl, rfl⟩ Sm (fun r1 hi1 hr1 H1 locs1 q1 hok1 G1 => ?_)
  obtain ⟨x, rfl, q⟩ := q1
  refine lv_aload_n (k := 2) x1 x2 (by decide +kernel) rfl (lv_at hl 1 rfl) ?_
  refine law_arg (pc := 343) (kx := 1) (st := [.inr (some (37, 0)), .inl x]) X G1.2.2.2.2 hl h0 (by omega) (by decide) (by decide +kernel) (by decide +kernel) (by decide +kernel) (by decide +kernel) (by decide +kernel) ?_
  refine law_arg (pc := 348) (kx := 2) (st := [.inl (LAr xs (i + 1)), .inr (some (37, 0)), .inl x]) X G1.2.2.2.2 hl h0 (by omega) (by decide) (by decide +kernel) (by decide +kernel) (by decide +kernel) (by decide +kernel) (by decide +kernel) ?_
  refine law_call (pc := 353) (vs := [.inl (LAr xs (i + 1)), .inl (LAr xs (i + 2))]) (st := [.inl x]) (k := 37) (j := 0) (y' := mX12_cell) X G1 hl.1 (by decide) hs (zok_cons (v := .inl (LAr xs (i + 1))) (z_toI _) (zok_cons (v := .inl (LAr xs (i + 2))) (z_toI _) (fun _ h => by cases h))) zv_37 (by decide +kernel) okX12_cell ⟨by decide, by decide⟩ lm_L_54 ivX12_cell zSh_37 zc_12 (Nat.le_of_ble_eq_true rfl) ⟨rfl, rfl⟩ q (fun r2 hi2 hr2 H2 locs2 q2 hok2 G2 => ?_)
  obtain ⟨rfl, R2⟩ := q2
  exact lv_icmp_eq (off := 170) (tgt := 526) x1 x2 (by decide +kernel) (by decide) (fun _ => nx hi2 hr2 H2 locs2 R2 G2) (fun h => absurd rfl h)
set_option maxRecDepth 100000 in
theorem law_vehicle (X : LX p s m meth c b L xs D cy) (G : LG s D cy 174 hi hr H locs 174) (hs : slots ≤ 7302250) (hl : LL s b i lsr) (h0 : 0 ≤ i) (h6 : i + 6 ≤ L) (R : RLb hi hr hi) (nx : ∀ hi' hr' H' locs', RLb hi' hr' hi' → LG s D cy 174 hi' hr' H' locs' 174 → W p l e room_1 s m #[Value.ref b] below meth c H' locs' 174 slots Z (F0 m 526 lsr [])) :
    W p l e room_1 s m #[Value.ref b] below meth c H locs 174 slots Z (F0 m 361 lsr []) := by
  have x1 := X.1.1
  have x2 := X.1.2.1
  have Sm : WPm _ (.inr (some (1, 0)) :: [.inl (LAr xs (i + 1)), .inl (LAr xs (i + 2))]) hi hr _ := sim_vehicle R _ _ (fun _ hi' hr' => RLb hi' hr' hi') (fun _ _ _ h => h)
  refine lv_aload_n (k := 1) x1 x2 (by decide +kernel) rfl (lv_at hl 2 rfl) ?_
  refine law_arg (pc := 362) (kx := 1) (st := [.inr (some (1, 0))]) X G.2.2.2.2 hl h0 (by omega) (by decide) (by decide +kernel) (by decide +kernel) (by decide +kernel) (by decide +kernel) (by decide +kernel) ?_
  refine law_arg (pc := 367) (kx := 2) (st := [.inl (LAr xs (i + 1)), .inr (some (1, 0))]) X G.2.2.2.2 hl h0 (by omega) (by decide) (by decide +kernel) (by decide +kernel) (by decide +kernel) (by decide +kernel) (by decide +kernel) ?_
  refine law_call (pc := 372) (vs := [.inl (LAr xs (i + 1)), .inl (LAr xs (i + 2))]) (st := []) (k := 1) (j := 0) (y' := mX11_vehicle) X G hl.1 (by decide) hs (zok_cons (v := .inl (LAr xs (i + 1))) (z_toI _) (zok_cons (v := .inl (LAr xs (i + 2))) (z_toI _) (fun _ h => by cases h))) zv_1 (by decide +kernel) okX11_vehicle ⟨by decide, by decide⟩ lm_L_55 ivX11_vehicle zSh_1 zc_11 (Nat.le_of_ble_eq_true rfl) ⟨rfl, rfl⟩ Sm (fun r1 hi1 hr1 H1 locs1 q1 hok1 G1 => ?_)
  obtain ⟨x, rfl, q⟩ := q1
  refine lv_aload_n (k := 2) x1 x2 (by decide +kernel) rfl (lv_at hl 1 rfl) ?_
  refine law_arg (pc := 376) (kx := 1) (st := [.inr (some (37, 0)), .inl x]) X G1.2.2.2.2 hl h0 (by omega) (by decide) (by decide +kernel) (by decide +kernel) (by decide +kernel) (by decide +kernel) (by decide +kernel) ?_
  refine law_arg (pc := 381) (kx := 2) (st := [.inl (LAr xs (i + 1)), .inr (some (37, 0)), .inl x]) X G1.2.2.2.2 hl h0 (by omega) (by decide) (by decide +kernel) (by decide +kernel) (by decide +kernel) (by decide +kernel) (by decide +kernel) ?_
  refine law_call (pc := 386) (vs := [.inl (LAr xs (i + 1)), .inl (LAr xs (i + 2))]) (st := [.inl x]) (k := 37) (j := 0) (y' := mX12_vehicle) X G1 hl.1 (by decide) hs (zok_cons (v := .inl (LAr xs (i + 1))) (z_toI _) (zok_cons (v := .inl (LAr xs (i + 2))) (z_toI _) (fun _ h => by cases h))) zv_37 (by decide +kernel) okX12_vehicle ⟨by decide, by decide⟩ lm_L_58 ivX12_vehicle zSh_37 zc_12 (Nat.le_of_ble_eq_true rfl) ⟨rfl, rfl⟩ q (fun r2 hi2 hr2 H2 locs2 q2 hok2 G2 => ?_)
  obtain ⟨rfl, R2⟩ := q2
  exact lv_icmp_eq (off := 137) (tgt := 526) x1 x2 (by decide +kernel) (by decide) (fun _ => nx hi2 hr2 H2 locs2 R2 G2) (fun h => absurd rfl h)
set_option maxRecDepth 100000 in
theorem law_trip (X : LX p s m meth c b L xs D cy) (G : LG s D cy 174 hi hr H locs 174) (hs : slots ≤ 7302250) (hl : LL s b i lsr) (h0 : 0 ≤ i) (h6 : i + 6 ≤ L) (R : RLb hi hr hi) (nx : ∀ hi' hr' H' locs', RLb hi' hr' hi' → LG s D cy 174 hi' hr' H' locs' 174 → W p l e room_1 s m #[Value.ref b] below meth c H' locs' 174 slots Z (F0 m 526 lsr [])) :
    W p l e room_1 s m #[Value.ref b] below meth c H locs 174 slots Z (F0 m 394 lsr []) := by
  have x1 := X.1.1
  have x2 := X.1.2.1
  have Sm : WPm _ (.inr (some (1, 0)) :: [.inl (LAr xs (i + 1)), .inl (LAr xs (i + 2))]) hi hr _ := sim_trip R (z_toI _) (fun _ hi' hr' => RLb hi' hr' hi') (fun _ _ _ h => h)
  refine lv_aload_n (k := 1) x1 x2 (by decide +kernel) rfl (lv_at hl 2 rfl) ?_
  refine law_arg (pc := 395) (kx := 1) (st := [.inr (some (1, 0))]) X G.2.2.2.2 hl h0 (by omega) (by decide) (by decide +kernel) (by decide +kernel) (by decide +kernel) (by decide +kernel) (by decide +kernel) ?_
  refine law_arg (pc := 400) (kx := 2) (st := [.inl (LAr xs (i + 1)), .inr (some (1, 0))]) X G.2.2.2.2 hl h0 (by omega) (by decide) (by decide +kernel) (by decide +kernel) (by decide +kernel) (by decide +kernel) (by decide +kernel) ?_
  refine law_call (pc := 405) (vs := [.inl (LAr xs (i + 1)), .inl (LAr xs (i + 2))]) (st := []) (k := 1) (j := 0) (y' := mX11_trip) X G hl.1 (by decide) hs (zok_cons (v := .inl (LAr xs (i + 1))) (z_toI _) (zok_cons (v := .inl (LAr xs (i + 2))) (z_toI _) (fun _ h => by cases h))) zv_1 (by decide +kernel) okX11_trip ⟨by decide, by decide⟩ lm_L_59 ivX11_trip zSh_1 zc_11 (Nat.le_of_ble_eq_true rfl) ⟨rfl, rfl⟩ Sm (fun r1 hi1 hr1 H1 locs1 q1 hok1 G1 => ?_)
  obtain ⟨x, rfl, q⟩ := q1
  refine lv_aload_n (k := 2) x1 x2 (by decide +kernel) rfl (lv_at hl 1 rfl) ?_
  refine law_arg (pc := 409) (kx := 1) (st := [.inr (some (37, 0)), .inl x]) X G1.2.2.2.2 hl h0 (by omega) (by decide) (by decide +kernel) (by decide +kernel) (by decide +kernel) (by decide +kernel) (by decide +kernel) ?_
  refine law_arg (pc := 414) (kx := 2) (st := [.inl (LAr xs (i + 1)), .inr (some (37, 0)), .inl x]) X G1.2.2.2.2 hl h0 (by omega) (by decide) (by decide +kernel) (by decide +kernel) (by decide +kernel) (by decide +kernel) (by decide +kernel) ?_
  refine law_call (pc := 419) (vs := [.inl (LAr xs (i + 1)), .inl (LAr xs (i + 2))]) (st := [.inl x]) (k := 37) (j := 0) (y' := mX12_trip) X G1 hl.1 (by decide) hs (zok_cons (v := .inl (LAr xs (i + 1))) (z_toI _) (zok_cons (v := .inl (LAr xs (i + 2))) (z_toI _) (fun _ h => by cases h))) zv_37 (by decide +kernel) okX12_trip ⟨by decide, by decide⟩ lm_L_62 ivX12_trip zSh_37 zc_12 (Nat.le_of_ble_eq_true rfl) ⟨rfl, rfl⟩ q (fun r2 hi2 hr2 H2 locs2 q2 hok2 G2 => ?_)
  obtain ⟨rfl, R2⟩ := q2
  exact lv_icmp_eq (off := 104) (tgt := 526) x1 x2 (by decide +kernel) (by decide) (fun _ => nx hi2 hr2 H2 locs2 R2 G2) (fun h => absurd rfl h)
set_option maxRecDepth 100000 in
theorem law_plan (X : LX p s m meth c b L xs D cy) (G : LG s D cy 174 hi hr H locs 174) (hs : slots ≤ 7302250) (hl : LL s b i lsr) (h0 : 0 ≤ i) (h6 : i + 6 ≤ L) (R : RLb hi hr hi) (nx : ∀ hi' hr' H' locs', RLb hi' hr' hi' → LG s D cy 174 hi' hr' H' locs' 174 → W p l e room_1 s m #[Value.ref b] below meth c H' locs' 174 slots Z (F0 m 526 lsr [])) :
    W p l e room_1 s m #[Value.ref b] below meth c H locs 174 slots Z (F0 m 427 lsr []) := by
  have x1 := X.1.1
  have x2 := X.1.2.1
  have Sm : WPm _ (.inr (some (1, 0)) :: [.inl (LAr xs (i + 1)), .inl (LAr xs (i + 2)), .inl (LAr xs (i + 3))]) hi hr _ := sim_plan R _ _ _ (fun _ hi' hr' => RLb hi' hr' hi') (fun _ _ _ h => h)
  refine lv_aload_n (k := 1) x1 x2 (by decide +kernel) rfl (lv_at hl 2 rfl) ?_
  refine law_arg (pc := 428) (kx := 1) (st := [.inr (some (1, 0))]) X G.2.2.2.2 hl h0 (by omega) (by decide) (by decide +kernel) (by decide +kernel) (by decide +kernel) (by decide +kernel) (by decide +kernel) ?_
  refine law_arg (pc := 433) (kx := 2) (st := [.inl (LAr xs (i + 1)), .inr (some (1, 0))]) X G.2.2.2.2 hl h0 (by omega) (by decide) (by decide +kernel) (by decide +kernel) (by decide +kernel) (by decide +kernel) (by decide +kernel) ?_
  refine law_arg (pc := 438) (kx := 3) (st := [.inl (LAr xs (i + 2)), .inl (LAr xs (i + 1)), .inr (some (1, 0))]) X G.2.2.2.2 hl h0 (by omega) (by decide) (by decide +kernel) (by decide +kernel) (by decide +kernel) (by decide +kernel) (by decide +kernel) ?_
  refine law_call (pc := 443) (vs := [.inl (LAr xs (i + 1)), .inl (LAr xs (i + 2)), .inl (LAr xs (i + 3))]) (st := []) (k := 1) (j := 0) (y' := mX11_plan) X G hl.1 (by decide) hs (zok_cons (v := .inl (LAr xs (i + 1))) (z_toI _) (zok_cons (v := .inl (LAr xs (i + 2))) (z_toI _) (zok_cons (v := .inl (LAr xs (i + 3))) (z_toI _) (fun _ h => by cases h)))) zv_1 (by decide +kernel) okX11_plan ⟨by decide, by decide⟩ lm_L_63 ivX11_plan zSh_1 zc_11 (Nat.le_of_ble_eq_true rfl) ⟨rfl, rfl⟩ Sm (fun r1 hi1 hr1 H1 locs1 q1 hok1 G1 => ?_)
  obtain ⟨x, rfl, q⟩ := q1
  refine lv_aload_n (k := 2) x1 x2 (by decide +kernel) rfl (lv_at hl 1 rfl) ?_
  refine law_arg (pc := 447) (kx := 1) (st := [.inr (some (37, 0)), .inl x]) X G1.2.2.2.2 hl h0 (by omega) (by decide) (by decide +kernel) (by decide +kernel) (by decide +kernel) (by decide +kernel) (by decide +kernel) ?_
  refine law_arg (pc := 452) (kx := 2) (st := [.inl (LAr xs (i + 1)), .inr (some (37, 0)), .inl x]) X G1.2.2.2.2 hl h0 (by omega) (by decide) (by decide +kernel) (by decide +kernel) (by decide +kernel) (by decide +kernel) (by decide +kernel) ?_
  refine law_arg (pc := 457) (kx := 3) (st := [.inl (LAr xs (i + 2)), .inl (LAr xs (i + 1)), .inr (some (37, 0)), .inl x]) X G1.2.2.2.2 hl h0 (by omega) (by decide) (by decide +kernel) (by decide +kernel) (by decide +kernel) (by decide +kernel) (by decide +kernel) ?_
  refine law_call (pc := 462) (vs := [.inl (LAr xs (i + 1)), .inl (LAr xs (i + 2)), .inl (LAr xs (i + 3))]) (st := [.inl x]) (k := 37) (j := 0) (y' := mX12_plan) X G1 hl.1 (by decide) hs (zok_cons (v := .inl (LAr xs (i + 1))) (z_toI _) (zok_cons (v := .inl (LAr xs (i + 2))) (z_toI _) (zok_cons (v := .inl (LAr xs (i + 3))) (z_toI _) (fun _ h => by cases h)))) zv_37 (by decide +kernel) okX12_plan ⟨by decide, by decide⟩ lm_L_67 ivX12_plan zSh_37 zc_12 (Nat.le_of_ble_eq_true rfl) ⟨rfl, rfl⟩ q (fun r2 hi2 hr2 H2 locs2 q2 hok2 G2 => ?_)
  obtain ⟨rfl, R2⟩ := q2
  exact lv_icmp_eq (off := 61) (tgt := 526) x1 x2 (by decide +kernel) (by decide) (fun _ => nx hi2 hr2 H2 locs2 R2 G2) (fun h => absurd rfl h)
set_option maxRecDepth 100000 in
theorem law_told (X : LX p s m meth c b L xs D cy) (G : LG s D cy 174 hi hr H locs 174) (hs : slots ≤ 7302250) (hl : LL s b i lsr) (h0 : 0 ≤ i) (h6 : i + 6 ≤ L) (R : RLb hi hr hi) (nx : ∀ hi' hr' H' locs', RLb hi' hr' hi' → LG s D cy 174 hi' hr' H' locs' 174 → W p l e room_1 s m #[Value.ref b] below meth c H' locs' 174 slots Z (F0 m 526 lsr [])) :
    W p l e room_1 s m #[Value.ref b] below meth c H locs 174 slots Z (F0 m 470 lsr []) := by
  have x1 := X.1.1
  have x2 := X.1.2.1
  have Sm : WPm _ (.inr (some (1, 0)) :: [.inl (LAr xs (i + 1)), .inl (LAr xs (i + 2))]) hi hr _ := sim_told R _ _ (fun _ hi' hr' => RLb hi' hr' hi') (fun _ _ _ h => h)
  refine lv_aload_n (k := 1) x1 x2 (by decide +kernel) rfl (lv_at hl 2 rfl) ?_
  refine law_arg (pc := 471) (kx := 1) (st := [.inr (some (1, 0))]) X G.2.2.2.2 hl h0 (by omega) (by decide) (by decide +kernel) (by decide +kernel) (by decide +kernel) (by decide +kernel) (by decide +kernel) ?_
  refine law_arg (pc := 476) (kx := 2) (st := [.inl (LAr xs (i + 1)), .inr (some (1, 0))]) X G.2.2.2.2 hl h0 (by omega) (by decide) (by decide +kernel) (by decide +kernel) (by decide +kernel) (by decide +kernel) (by decide +kernel) ?_
  refine law_call (pc := 481) (vs := [.inl (LAr xs (i + 1)), .inl (LAr xs (i + 2))]) (st := []) (k := 1) (j := 0) (y' := mX11_told) X G hl.1 (by decide) hs (zok_cons (v := .inl (LAr xs (i + 1))) (z_toI _) (zok_cons (v := .inl (LAr xs (i + 2))) (z_toI _) (fun _ h => by cases h))) zv_1 (by decide +kernel) okX11_told ⟨by decide, by decide⟩ lm_L_68 ivX11_told zSh_1 zc_11 (Nat.le_of_ble_eq_true rfl) ⟨rfl, rfl⟩ Sm (fun r1 hi1 hr1 H1 locs1 q1 hok1 G1 => ?_)
  obtain ⟨x, rfl, q⟩ := q1
  refine lv_aload_n (k := 2) x1 x2 (by decide +kernel) rfl (lv_at hl 1 rfl) ?_
  refine law_arg (pc := 485) (kx := 1) (st := [.inr (some (37, 0)), .inl x]) X G1.2.2.2.2 hl h0 (by omega) (by decide) (by decide +kernel) (by decide +kernel) (by decide +kernel) (by decide +kernel) (by decide +kernel) ?_
  refine law_arg (pc := 490) (kx := 2) (st := [.inl (LAr xs (i + 1)), .inr (some (37, 0)), .inl x]) X G1.2.2.2.2 hl h0 (by omega) (by decide) (by decide +kernel) (by decide +kernel) (by decide +kernel) (by decide +kernel) (by decide +kernel) ?_
  refine law_call (pc := 495) (vs := [.inl (LAr xs (i + 1)), .inl (LAr xs (i + 2))]) (st := [.inl x]) (k := 37) (j := 0) (y' := mX12_told) X G1 hl.1 (by decide) hs (zok_cons (v := .inl (LAr xs (i + 1))) (z_toI _) (zok_cons (v := .inl (LAr xs (i + 2))) (z_toI _) (fun _ h => by cases h))) zv_37 (by decide +kernel) okX12_told ⟨by decide, by decide⟩ lm_L_71 ivX12_told zSh_37 zc_12 (Nat.le_of_ble_eq_true rfl) ⟨rfl, rfl⟩ q (fun r2 hi2 hr2 H2 locs2 q2 hok2 G2 => ?_)
  obtain ⟨rfl, R2⟩ := q2
  exact lv_icmp_eq (off := 28) (tgt := 526) x1 x2 (by decide +kernel) (by decide) (fun _ => nx hi2 hr2 H2 locs2 R2 G2) (fun h => absurd rfl h)
set_option maxRecDepth 100000 in
theorem law_count (X : LX p s m meth c b L xs D cy) (G : LG s D cy 174 hi hr H locs 174) (hs : slots ≤ 7302250) (hl : LL s b i lsr) (h0 : 0 ≤ i) (h6 : i + 6 ≤ L) (R : RLb hi hr hi) (nx : ∀ hi' hr' H' locs', RLb hi' hr' hi' → LG s D cy 174 hi' hr' H' locs' 174 → W p l e room_1 s m #[Value.ref b] below meth c H' locs' 174 slots Z (F0 m 526 lsr [])) :
    W p l e room_1 s m #[Value.ref b] below meth c H locs 174 slots Z (F0 m 503 lsr []) := by
  have x1 := X.1.1
  have x2 := X.1.2.1
  have Sm : WPm _ (.inr (some (1, 0)) :: [.inl (LAr xs (i + 1))]) hi hr _ := sim_count R _ (fun _ hi' hr' => RLb hi' hr' hi') (fun _ _ _ h => h)
  refine lv_aload_n (k := 1) x1 x2 (by decide +kernel) rfl (lv_at hl 2 rfl) ?_
  refine law_arg (pc := 504) (kx := 1) (st := [.inr (some (1, 0))]) X G.2.2.2.2 hl h0 (by omega) (by decide) (by decide +kernel) (by decide +kernel) (by decide +kernel) (by decide +kernel) (by decide +kernel) ?_
  refine law_call (pc := 509) (vs := [.inl (LAr xs (i + 1))]) (st := []) (k := 1) (j := 0) (y' := mX11_count) X G hl.1 (by decide) hs (zok_cons (v := .inl (LAr xs (i + 1))) (z_toI _) (fun _ h => by cases h)) zv_1 (by decide +kernel) okX11_count ⟨by decide, by decide⟩ lm_L_72 ivX11_count zSh_1 zc_11 (Nat.le_of_ble_eq_true rfl) ⟨rfl, rfl⟩ Sm (fun r1 hi1 hr1 H1 locs1 q1 hok1 G1 => ?_)
  obtain ⟨x, rfl, q⟩ := q1
  refine lv_aload_n (k := 2) x1 x2 (by decide +kernel) rfl (lv_at hl 1 rfl) ?_
  refine law_arg (pc := 513) (kx := 1) (st := [.inr (some (37, 0)), .inl x]) X G1.2.2.2.2 hl h0 (by omega) (by decide) (by decide +kernel) (by decide +kernel) (by decide +kernel) (by decide +kernel) (by decide +kernel) ?_
  refine law_call (pc := 518) (vs := [.inl (LAr xs (i + 1))]) (st := [.inl x]) (k := 37) (j := 0) (y' := mX12_count) X G1 hl.1 (by decide) hs (zok_cons (v := .inl (LAr xs (i + 1))) (z_toI _) (fun _ h => by cases h)) zv_37 (by decide +kernel) okX12_count ⟨by decide, by decide⟩ lm_L_75 ivX12_count zSh_37 zc_12 (Nat.le_of_ble_eq_true rfl) ⟨rfl, rfl⟩ q (fun r2 hi2 hr2 H2 locs2 q2 hok2 G2 => ?_)
  obtain ⟨rfl, R2⟩ := q2
  exact lv_icmp_eq (off := 5) (tgt := 526) x1 x2 (by decide +kernel) (by decide) (fun _ => nx hi2 hr2 H2 locs2 R2 G2) (fun h => absurd rfl h)
end LAW
