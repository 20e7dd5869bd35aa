set_option maxHeartbeats 4000000 in
set_option maxRecDepth 100000 in
theorem whole_start {p : Program} {e : Env} {s : State} {m : MethodId} {below : List Frame} {meth : Method} {c : Code} (l : Launch) {b L : Nat} {xs : Nat → Int32} (hL : L ≤ 3072) (C0 : lw_At p s m meth c b L xs) : W p l e room_1 s m #[Value.ref b] below meth c s.heap [] 0 0 (lw_Z below #[Value.ref b] s) (entryFrame m ([Value.ref b] : List Value).toArray 4) := by
  have hts := zTb_of C0.2.2.2.2.2.1
  obtain ⟨D, cy, hK⟩ := zKnown hts
  have X : LX p s m meth c b L xs D cy := ⟨C0, hts, hK, hL⟩
  have x1 := C0.1
  have x2 := C0.2.1
  obtain ⟨cI, mI, k1, k2, RR⟩ := both_made
  have hl := lv_entry ([.ref b]) (n := 4) (Nat.le_of_ble_eq_true rfl)
  rw [lg_entry_eq]
  generalize (lg_sl ([.ref b]) ++ List.replicate (4 - (lg_sl ([.ref b])).length) Slot.unset).toArray = ls at hl ⊢
  have hl : lv_has ls 4 [(0, .ref b)] := hl
  have G0 : LG s D cy 0 hI0 hR0 s.heap [] 0 := ⟨⟨fun _ _ _ _ => ⟨(by decide : (-2147483648 : Int) ≤ 0), (by decide : (0 : Int) < 2147483648)⟩, fun _ _ _ _ h => by cases h⟩, by decide, rfl, fun k q h => by simp [zW] at h, va_S.rf⟩
  refine law_new (k := 1) (j := 0) (cc := 11) (N := 11) (pc := 0) (slots := 0) X G0 (by decide) (by decide) (by decide +kernel) zc_11 lc_L_7 (by decide) (by decide +kernel) zSh_1 (fun H1 v1 G1 => ?_)
  refine lv_dup x1 x2 (by decide +kernel) rfl ?_
  refine law_ini (q := (1, 0)) (y' := mX11_init) (st := [.inr (some (1, 0))]) (n2 := 130) (hi2 := cI) (hr2 := gR1) X G1 hl.1 (by decide) (by decide) v1 (by decide +kernel) okX11_init ⟨by decide, by decide⟩ lm_L_9 ivX11_init rfl rfl (Nat.le_of_ble_eq_true rfl) k1 (fun H2 locs2 G2 => ?_)
  refine W.widen (k := 130) (n := 30000) (by decide) (by decide) ?_
  have G2 : LG s D cy 130 cI gR1 H2 locs2 130 := ⟨G2.1, G2.2.1, rfl, G2.2.2.2.1, G2.2.2.2.2⟩
  refine lv_astore_n (k := 1) (x := zA s.heap.size (1, 0)) (lv' := [(1, .ref (zA s.heap.size (1, 0))), (0, .ref b)]) x1 x2 (by decide +kernel) rfl hl (by decide) rfl (fun ls hl => ?_)
  refine law_new (k := 37) (j := 0) (cc := 12) (N := 65) (pc := 8) X G2 (by decide) (by decide) (by decide +kernel) zc_12 lc_L_10 (by decide) (by decide +kernel) zSh_37 (fun H3 v3 G3 => ?_)
  refine lv_dup x1 x2 (by decide +kernel) rfl ?_
  refine law_ini (q := (37, 0)) (y' := mX12_init) (st := [.inr (some (37, 0))]) (n2 := 174) (hi2 := mI) (hr2 := gR2) X G3 hl.1 (by decide) (by decide) v3 (by decide +kernel) okX12_init ⟨by decide, by decide⟩ lm_L_12 ivX12_init rfl rfl (Nat.le_of_ble_eq_true rfl) k2 (fun H4 locs4 G4 => ?_)
  refine W.widen (k := 174) (n := 7302250) (by decide) (by decide) ?_
  have G4 : LG s D cy 174 mI gR2 H4 locs4 174 := ⟨G4.1, G4.2.1, rfl, G4.2.2.2.1, G4.2.2.2.2⟩
  refine lv_astore_n (k := 2) (x := zA s.heap.size (37, 0)) (lv' := [(2, .ref (zA s.heap.size (37, 0))), (1, .ref (zA s.heap.size (1, 0))), (0, .ref b)]) x1 x2 (by decide +kernel) rfl hl (by decide) rfl (fun ls hl => ?_)
  refine lv_iconst (n := 0) (v := Int32.ofInt 0) x1 x2 (by decide +kernel) rfl ?_
  refine lv_istore_n (k := 3) (lv' := [(3, .int (Int32.ofInt 0)), (2, .ref (zA s.heap.size (37, 0))), (1, .ref (zA s.heap.size (1, 0))), (0, .ref b)]) x1 x2 (by decide +kernel) rfl hl (by decide) rfl (fun ls hl => ?_)
  exact law_loop X (Nat.le_refl _) (L + 1) 0 mI gR2 H4 locs4 ls (by decide) (by omega) (by omega) hl RR G4
