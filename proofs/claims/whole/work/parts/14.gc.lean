set_option maxRecDepth 100000 in
set_option maxHeartbeats 4000000 in
theorem GX0_beginAnew {hi : zI} {hr : zR} {P : zI → Prop} (hR : RSc hr) (j : Int) (l1 : Int) (hj : 0 ≤ j ∧ j < 6)
    (F : W1v mX6_begin [.inr (some (25, j)), .inl l1, .inl 0] hi hr (fun (hi1 : zI) => P (zup (zup (zup (zup (zup (zup hi1 24 j 1 0) 24 j 2 (-1)) 24 j 3 0) 24 j 4 0) 24 j 5 0) 24 j 6 0))) :
    W1v mX0_beginAnew [.inr (some (24, j)), .inl l1] hi hr P :=
  WPm.of rfl (show WP mX0_beginAnew 0 [some (.inr (some (24, j))), some (.inl l1)] [] hi hr (zQ1v hr P) from
  WP.aload_n (pc2 := 1) (i := 0) rfl (by decide +kernel) rfl <|
  WP.getR (pc2 := 4) rfl (by decide +kernel) zc_0 zSh_24 (by decide) rfl lf_X0_12 rfl (rs_24_0 hR j hj) <|
  WP.iload_n (pc2 := 5) (i := 1) rfl (by decide +kernel) rfl <|
  WP.iconst (pc2 := 6) (x := 0) rfl (by decide +kernel) (by decide) <|
  WP.callV (y := mX0_beginAnew) (index := 18) (pc2 := 9) (y' := mX6_begin) (vs := [.inl l1, .inl 0]) rfl (by decide +kernel) okX6_begin ⟨by decide, by decide⟩ ⟨lm_X0_18, ivX6_begin⟩ zSh_25 zc_6 (Nat.le_of_ble_eq_true rfl) ⟨rfl, rfl⟩ rfl (WP.c1v F (fun hi1 f2 =>
  WP.aload_n (pc2 := 10) (i := 0) rfl (by decide +kernel) rfl <|
  WP.iconst (pc2 := 11) (x := 0) rfl (by decide +kernel) (by decide) <|
  WP.putI (pc2 := 14) rfl (by decide +kernel) zc_0 zSh_24 (by decide) rfl lf_X0_22 rfl (z_int _) rfl <|
  WP.aload_n (pc2 := 15) (i := 0) rfl (by decide +kernel) rfl <|
  WP.iconst (pc2 := 16) (x := -1) rfl (by decide +kernel) (by decide) <|
  WP.putI (pc2 := 19) rfl (by decide +kernel) zc_0 zSh_24 (by decide) rfl lf_X0_26 rfl (z_int _) rfl <|
  WP.aload_n (pc2 := 20) (i := 0) rfl (by decide +kernel) rfl <|
  WP.iconst (pc2 := 21) (x := 0) rfl (by decide +kernel) (by decide) <|
  WP.putI (pc2 := 24) rfl (by decide +kernel) zc_0 zSh_24 (by decide) rfl lf_X0_29 rfl (z_int _) rfl <|
  WP.aload_n (pc2 := 25) (i := 0) rfl (by decide +kernel) rfl <|
  WP.iconst (pc2 := 26) (x := 0) rfl (by decide +kernel) (by decide) <|
  WP.putI (pc2 := 29) rfl (by decide +kernel) zc_0 zSh_24 (by decide) rfl lf_X0_32 rfl (z_int _) rfl <|
  WP.aload_n (pc2 := 30) (i := 0) rfl (by decide +kernel) rfl <|
  WP.iconst (pc2 := 31) (x := 0) rfl (by decide +kernel) (by decide) <|
  WP.putI (pc2 := 34) rfl (by decide +kernel) zc_0 zSh_24 (by decide) rfl lf_X0_35 rfl (z_int _) rfl <|
  WP.aload_n (pc2 := 35) (i := 0) rfl (by decide +kernel) rfl <|
  WP.iconst (pc2 := 36) (x := 0) rfl (by decide +kernel) (by decide) <|
  WP.putI (pc2 := 39) rfl (by decide +kernel) zc_0 zSh_24 (by decide) rfl lf_X0_38 rfl (z_int _) rfl <|
  WP.vret (by decide +kernel) rfl ⟨rfl, rfl, f2⟩)))
set_option maxRecDepth 100000 in
set_option maxHeartbeats 4000000 in
theorem GX0_take {hi : zI} {hr : zR} {P : zI → Prop} (j : Int) (l1 : Int) (hj : 0 ≤ j ∧ j < 6)
    (F : (zInR ((hi 24 j 1) + 1)) ∧ (P (zup (zup (zup hi 24 j 1 ((hi 24 j 1) + 1)) 24 j 2 l1) 24 j 5 0))) :
    W1v mX0_take [.inr (some (24, j)), .inl l1] hi hr P :=
  WPm.of rfl (show WP mX0_take 0 [some (.inr (some (24, j))), some (.inl l1)] [] hi hr (zQ1v hr P) from
  WP.aload_n (pc2 := 1) (i := 0) rfl (by decide +kernel) rfl <|
  WP.dup (pc2 := 2) rfl (by decide +kernel) <|
  WP.getI (pc2 := 5) rfl (by decide +kernel) zc_0 zSh_24 (by decide) rfl lf_X0_22 rfl rfl <|
  WP.iconst (pc2 := 6) (x := 1) rfl (by decide +kernel) (by decide) <|
  WP.iadd (pc2 := 7) rfl (by decide +kernel) F.1 <|
  WP.putI (pc2 := 10) rfl (by decide +kernel) zc_0 zSh_24 (by decide) rfl lf_X0_22 rfl (z_int _) rfl <|
  WP.aload_n (pc2 := 11) (i := 0) rfl (by decide +kernel) rfl <|
  WP.iload_n (pc2 := 12) (i := 1) rfl (by decide +kernel) rfl <|
  WP.putI (pc2 := 15) rfl (by decide +kernel) zc_0 zSh_24 (by decide) rfl lf_X0_26 rfl (z_int _) rfl <|
  WP.aload_n (pc2 := 16) (i := 0) rfl (by decide +kernel) rfl <|
  WP.iconst (pc2 := 17) (x := 0) rfl (by decide +kernel) (by decide) <|
  WP.putI (pc2 := 20) rfl (by decide +kernel) zc_0 zSh_24 (by decide) rfl lf_X0_35 rfl (z_int _) rfl <|
  WP.vret (by decide +kernel) rfl ⟨rfl, rfl, F.2⟩)
set_option maxRecDepth 100000 in
set_option maxHeartbeats 4000000 in
theorem GX0_learn {hi : zI} {hr : zR} {P : zI → Prop} (j : Int) (j1 : Int) (hj : 0 ≤ j ∧ j < 6) (hj1 : 0 ≤ j1 ∧ j1 < 64)
    (F : (hi 24 j 3 < hi 10 j1 2 → (P (zup (zup hi 24 j 3 (hi 10 j1 2)) 24 j 4 (hi 10 j1 3)))) ∧ (hi 10 j1 2 ≤ hi 24 j 3 → ((hi 10 j1 2 ≠ hi 24 j 3 → P hi) ∧ (hi 10 j1 2 = hi 24 j 3 → ((hi 10 j1 3 ≤ hi 24 j 4 → P hi) ∧ (hi 24 j 4 < hi 10 j1 3 → (P (zup (zup hi 24 j 3 (hi 10 j1 2)) 24 j 4 (hi 10 j1 3))))))))) :
    W1v mX0_learn [.inr (some (24, j)), .inr (some (10, j1))] hi hr P :=
  WPm.of rfl (show WP mX0_learn 0 [some (.inr (some (24, j))), some (.inr (some (10, j1))), none] [] hi hr (zQ1v hr P) from
  WP.aload_n (pc2 := 1) (i := 1) rfl (by decide +kernel) rfl <|
  WP.getI (pc2 := 4) rfl (by decide +kernel) zc_3 zSh_10 (by decide) rfl lf_X0_41 rfl rfl <|
  WP.aload_n (pc2 := 5) (i := 0) rfl (by decide +kernel) rfl <|
  WP.getI (pc2 := 8) rfl (by decide +kernel) zc_0 zSh_24 (by decide) rfl lf_X0_29 rfl rfl <|
  WP.icmp_gt (pc2 := 11) (off := 25) (tgt := 33) rfl (by decide +kernel) (by decide) (fun h7 => have f8 := F.1 h7
  WP.iconst (pc2 := 34) (x := 1) rfl (by decide +kernel) (by decide) <|
  WP.goto (off := 4) (tgt := 38) (by decide +kernel) (by decide) <|
  WP.istore_n (pc2 := 39) (i := 2) rfl (by decide +kernel) (by decide) <|
  WP.iload_n (pc2 := 40) (i := 2) rfl (by decide +kernel) rfl <|
  WP.if_eq (pc2 := 43) (off := 19) (tgt := 59) rfl (by decide +kernel) (by decide) (fun h => absurd h (by decide)) (fun _ =>
  WP.aload_n (pc2 := 44) (i := 0) rfl (by decide +kernel) rfl <|
  WP.aload_n (pc2 := 45) (i := 1) rfl (by decide +kernel) rfl <|
  WP.getI (pc2 := 48) rfl (by decide +kernel) zc_3 zSh_10 (by decide) rfl lf_X0_41 rfl rfl <|
  WP.putI (pc2 := 51) rfl (by decide +kernel) zc_0 zSh_24 (by decide) rfl lf_X0_29 rfl (z_int _) rfl <|
  WP.aload_n (pc2 := 52) (i := 0) rfl (by decide +kernel) rfl <|
  WP.aload_n (pc2 := 53) (i := 1) rfl (by decide +kernel) rfl <|
  WP.getI (pc2 := 56) rfl (by decide +kernel) zc_3 zSh_10 (by decide) rfl lf_X0_44 rfl (zup_k _ _ _ _ _ _ (by decide)) <|
  WP.putI (pc2 := 59) rfl (by decide +kernel) zc_0 zSh_24 (by decide) rfl lf_X0_32 rfl (z_int _) rfl <|
  WP.vret (by decide +kernel) rfl ⟨rfl, rfl, f8⟩)) (fun h7 => have f9 := F.2 h7
  WP.aload_n (pc2 := 12) (i := 1) rfl (by decide +kernel) rfl <|
  WP.getI (pc2 := 15) rfl (by decide +kernel) zc_3 zSh_10 (by decide) rfl lf_X0_41 rfl rfl <|
  WP.aload_n (pc2 := 16) (i := 0) rfl (by decide +kernel) rfl <|
  WP.getI (pc2 := 19) rfl (by decide +kernel) zc_0 zSh_24 (by decide) rfl lf_X0_29 rfl rfl <|
  WP.icmp_ne (pc2 := 22) (off := 18) (tgt := 37) rfl (by decide +kernel) (by decide) (fun h4 => have f5 := f9.1 h4
  WP.iconst (pc2 := 38) (x := 0) rfl (by decide +kernel) (by decide) <|
  WP.istore_n (pc2 := 39) (i := 2) rfl (by decide +kernel) (by decide) <|
  WP.iload_n (pc2 := 40) (i := 2) rfl (by decide +kernel) rfl <|
  WP.if_eq (pc2 := 43) (off := 19) (tgt := 59) rfl (by decide +kernel) (by decide) (fun _ =>
  WP.vret (by decide +kernel) rfl ⟨rfl, rfl, f5⟩) (fun h => absurd h (by decide))) (fun h4 => have f6 := f9.2 h4
  WP.aload_n (pc2 := 23) (i := 1) rfl (by decide +kernel) rfl <|
  WP.getI (pc2 := 26) rfl (by decide +kernel) zc_3 zSh_10 (by decide) rfl lf_X0_44 rfl rfl <|
  WP.aload_n (pc2 := 27) (i := 0) rfl (by decide +kernel) rfl <|
  WP.getI (pc2 := 30) rfl (by decide +kernel) zc_0 zSh_24 (by decide) rfl lf_X0_32 rfl rfl <|
  WP.icmp_le (pc2 := 33) (off := 7) (tgt := 37) rfl (by decide +kernel) (by decide) (fun h1 => have f2 := f6.1 h1
  WP.iconst (pc2 := 38) (x := 0) rfl (by decide +kernel) (by decide) <|
  WP.istore_n (pc2 := 39) (i := 2) rfl (by decide +kernel) (by decide) <|
  WP.iload_n (pc2 := 40) (i := 2) rfl (by decide +kernel) rfl <|
  WP.if_eq (pc2 := 43) (off := 19) (tgt := 59) rfl (by decide +kernel) (by decide) (fun _ =>
  WP.vret (by decide +kernel) rfl ⟨rfl, rfl, f2⟩) (fun h => absurd h (by decide))) (fun h1 => have f3 := f6.2 h1
  WP.iconst (pc2 := 34) (x := 1) rfl (by decide +kernel) (by decide) <|
  WP.goto (off := 4) (tgt := 38) (by decide +kernel) (by decide) <|
  WP.istore_n (pc2 := 39) (i := 2) rfl (by decide +kernel) (by decide) <|
  WP.iload_n (pc2 := 40) (i := 2) rfl (by decide +kernel) rfl <|
  WP.if_eq (pc2 := 43) (off := 19) (tgt := 59) rfl (by decide +kernel) (by decide) (fun h => absurd h (by decide)) (fun _ =>
  WP.aload_n (pc2 := 44) (i := 0) rfl (by decide +kernel) rfl <|
  WP.aload_n (pc2 := 45) (i := 1) rfl (by decide +kernel) rfl <|
  WP.getI (pc2 := 48) rfl (by decide +kernel) zc_3 zSh_10 (by decide) rfl lf_X0_41 rfl rfl <|
  WP.putI (pc2 := 51) rfl (by decide +kernel) zc_0 zSh_24 (by decide) rfl lf_X0_29 rfl (z_int _) rfl <|
  WP.aload_n (pc2 := 52) (i := 0) rfl (by decide +kernel) rfl <|
  WP.aload_n (pc2 := 53) (i := 1) rfl (by decide +kernel) rfl <|
  WP.getI (pc2 := 56) rfl (by decide +kernel) zc_3 zSh_10 (by decide) rfl lf_X0_44 rfl (zup_k _ _ _ _ _ _ (by decide)) <|
  WP.putI (pc2 := 59) rfl (by decide +kernel) zc_0 zSh_24 (by decide) rfl lf_X0_32 rfl (z_int _) rfl <|
  WP.vret (by decide +kernel) rfl ⟨rfl, rfl, f3⟩)))))
set_option maxRecDepth 100000 in
set_option maxHeartbeats 4000000 in
theorem GX0_isIdle {hi : zI} {hr : zR} {P : Int → Prop} (j : Int) (hj : 0 ≤ j ∧ j < 6)
    (F : (hi 24 j 2 ≠ -1 → P 0) ∧ (hi 24 j 2 = -1 → P 1)) :
    W0i mX0_isIdle [.inr (some (24, j))] hi hr P :=
  WPm.of rfl (show WP mX0_isIdle 0 [some (.inr (some (24, j)))] [] hi hr (zQ0i hi hr P) from
  WP.aload_n (pc2 := 1) (i := 0) rfl (by decide +kernel) rfl <|
  WP.getI (pc2 := 4) rfl (by decide +kernel) zc_0 zSh_24 (by decide) rfl lf_X0_26 rfl rfl <|
  WP.iconst (pc2 := 5) (x := -1) rfl (by decide +kernel) (by decide) <|
  WP.icmp_ne (pc2 := 8) (off := 7) (tgt := 12) rfl (by decide +kernel) (by decide) (fun h1 => have f2 := F.1 h1
  WP.iconst (pc2 := 13) (x := 0) rfl (by decide +kernel) (by decide) <|
  WP.zret (by decide +kernel) rfl (by decide) (fun hx => ⟨_, rfl, hx, rfl, rfl, f2⟩)) (fun h1 => have f3 := F.2 h1
  WP.iconst (pc2 := 9) (x := 1) rfl (by decide +kernel) (by decide) <|
  WP.goto (off := 4) (tgt := 13) (by decide +kernel) (by decide) <|
  WP.zret (by decide +kernel) rfl (by decide) (fun hx => ⟨_, rfl, hx, rfl, rfl, f3⟩)))
set_option maxRecDepth 100000 in
set_option maxHeartbeats 4000000 in
theorem GX0_actsKnown {hi : zI} {hr : zR} {P : Int → Prop} (j : Int) (hj : 0 ≤ j ∧ j < 6)
    (F : (hi 24 j 3 ≠ hi 24 j 1 → P 0) ∧ (hi 24 j 3 = hi 24 j 1 → (P (hi 24 j 4)))) :
    W0i mX0_actsKnown [.inr (some (24, j))] hi hr P :=
  WPm.of rfl (show WP mX0_actsKnown 0 [some (.inr (some (24, j)))] [] hi hr (zQ0i hi hr P) from
  WP.aload_n (pc2 := 1) (i := 0) rfl (by decide +kernel) rfl <|
  WP.getI (pc2 := 4) rfl (by decide +kernel) zc_0 zSh_24 (by decide) rfl lf_X0_29 rfl rfl <|
  WP.aload_n (pc2 := 5) (i := 0) rfl (by decide +kernel) rfl <|
  WP.getI (pc2 := 8) rfl (by decide +kernel) zc_0 zSh_24 (by decide) rfl lf_X0_22 rfl rfl <|
  WP.icmp_ne (pc2 := 11) (off := 10) (tgt := 18) rfl (by decide +kernel) (by decide) (fun h1 => have f2 := F.1 h1
  WP.iconst (pc2 := 19) (x := 0) rfl (by decide +kernel) (by decide) <|
  WP.iret (by decide +kernel) rfl (fun hx => ⟨_, rfl, hx, rfl, rfl, f2⟩)) (fun h1 => have f3 := F.2 h1
  WP.aload_n (pc2 := 12) (i := 0) rfl (by decide +kernel) rfl <|
  WP.getI (pc2 := 15) rfl (by decide +kernel) zc_0 zSh_24 (by decide) rfl lf_X0_32 rfl rfl <|
  WP.goto (off := 4) (tgt := 19) (by decide +kernel) (by decide) <|
  WP.iret (by decide +kernel) rfl (fun hx => ⟨_, rfl, hx, rfl, rfl, f3⟩)))
set_option maxRecDepth 100000 in
set_option maxHeartbeats 4000000 in
theorem GX0_isDoneWhole {hi : zI} {hr : zR} {P : Int → Prop} (hR : RSc hr) (j : Int) (hj : 0 ≤ j ∧ j < 6)
    (F : W0i mX0_actsKnown [.inr (some (24, j))] hi hr (fun (x1 : Int) => (x1 < hi 25 j 5 → P 0) ∧ (hi 25 j 5 ≤ x1 → P 1))) :
    W0i mX0_isDoneWhole [.inr (some (24, j))] hi hr P :=
  WPm.of rfl (show WP mX0_isDoneWhole 0 [some (.inr (some (24, j)))] [] hi hr (zQ0i hi hr P) from
  WP.aload_n (pc2 := 1) (i := 0) rfl (by decide +kernel) rfl <|
  WP.callV (y := mX0_isDoneWhole) (index := 47) (pc2 := 4) (y' := mX0_actsKnown) (vs := []) rfl (by decide +kernel) okX0_actsKnown ⟨by decide, by decide⟩ ⟨lm_X0_47, ivX0_actsKnown⟩ zSh_24 zc_0 (Nat.le_of_ble_eq_true rfl) ⟨rfl, rfl⟩ rfl (WP.c0i F (fun x1 _ f5 =>
  WP.aload_n (pc2 := 5) (i := 0) rfl (by decide +kernel) rfl <|
  WP.getR (pc2 := 8) rfl (by decide +kernel) zc_0 zSh_24 (by decide) rfl lf_X0_12 rfl (rs_24_0 hR j hj) <|
  WP.getI (pc2 := 11) rfl (by decide +kernel) zc_6 zSh_25 (by decide) rfl lf_X0_51 rfl rfl <|
  WP.icmp_lt (pc2 := 14) (off := 7) (tgt := 18) rfl (by decide +kernel) (by decide) (fun h2 => have f3 := f5.1 h2
  WP.iconst (pc2 := 19) (x := 0) rfl (by decide +kernel) (by decide) <|
  WP.zret (by decide +kernel) rfl (by decide) (fun hx => ⟨_, rfl, hx, rfl, rfl, f3⟩)) (fun h2 => have f4 := f5.2 h2
  WP.iconst (pc2 := 15) (x := 1) rfl (by decide +kernel) (by decide) <|
  WP.goto (off := 4) (tgt := 19) (by decide +kernel) (by decide) <|
  WP.zret (by decide +kernel) rfl (by decide) (fun hx => ⟨_, rfl, hx, rfl, rfl, f4⟩)))))
set_option maxRecDepth 100000 in
set_option maxHeartbeats 4000000 in
theorem GX0_nextActTo {hi : zI} {hr : zR} {P : Int → Prop} (j : Int) (l1 : Int) (hj : 0 ≤ j ∧ j < 6)
    (F : W0i mX0_firstActNotOver [.inr (some (24, j))] hi hr (fun (x1 : Int) => WP mX0_nextActTo 5 [some (.inr (some (24, j))), some (.inl l1), some (.inl x1)] [] hi hr (zQ0i hi hr P))) :
    W0i mX0_nextActTo [.inr (some (24, j)), .inl l1] hi hr P :=
  WPm.of rfl (show WP mX0_nextActTo 0 [some (.inr (some (24, j))), some (.inl l1), none] [] hi hr (zQ0i hi hr P) from
  WP.aload_n (pc2 := 1) (i := 0) rfl (by decide +kernel) rfl <|
  WP.callV (y := mX0_nextActTo) (index := 54) (pc2 := 4) (y' := mX0_firstActNotOver) (vs := []) rfl (by decide +kernel) okX0_firstActNotOver ⟨by decide, by decide⟩ ⟨lm_X0_54, ivX0_firstActNotOver⟩ zSh_24 zc_0 (Nat.le_of_ble_eq_true rfl) ⟨rfl, rfl⟩ rfl (WP.c0i F (fun x1 _ f2 =>
  WP.istore_n (pc2 := 5) (i := 2) rfl (by decide +kernel) (by decide) <|
  f2)))

set_option maxRecDepth 100000 in
set_option maxHeartbeats 4000000 in
theorem GX0_nextActTo_5 {hi : zI} {hr : zR} {P : Int → Prop} (hR : RSc hr) (j : Int) (l1 : Int) (a2 : Int) (hj : 0 ≤ j ∧ j < 6)
    (F : (hi 25 j 5 < a2 → P 0) ∧ (a2 ≤ hi 25 j 5 → (W0i mX6_cellOfAct [.inr (some (25, j)), .inl a2] hi hr (fun (x3 : Int) => (x3 ≠ l1 → ((zInR (a2 + 1)) ∧ (WP mX0_nextActTo 5 [some (.inr (some (24, j))), some (.inl l1), some (.inl (a2 + 1))] [] hi hr (zQ0i hi hr P)))) ∧ (x3 = l1 → P a2))))) :
    WP mX0_nextActTo 5 [some (.inr (some (24, j))), some (.inl l1), some (.inl a2)] [] hi hr (zQ0i hi hr P) :=
  WP.iload_n (pc2 := 6) (i := 2) rfl (by decide +kernel) rfl <|
  WP.aload_n (pc2 := 7) (i := 0) rfl (by decide +kernel) rfl <|
  WP.getR (pc2 := 10) rfl (by decide +kernel) zc_0 zSh_24 (by decide) rfl lf_X0_12 rfl (rs_24_0 hR j hj) <|
  WP.getI (pc2 := 13) rfl (by decide +kernel) zc_6 zSh_25 (by decide) rfl lf_X0_51 rfl rfl <|
  WP.icmp_gt (pc2 := 16) (off := 23) (tgt := 36) rfl (by decide +kernel) (by decide) (fun h8 => have f9 := F.1 h8
  WP.iconst (pc2 := 37) (x := 0) rfl (by decide +kernel) (by decide) <|
  WP.iret (by decide +kernel) rfl (fun hx => ⟨_, rfl, hx, rfl, rfl, f9⟩)) (fun h8 => have f10 := F.2 h8
  WP.aload_n (pc2 := 17) (i := 0) rfl (by decide +kernel) rfl <|
  WP.getR (pc2 := 20) rfl (by decide +kernel) zc_0 zSh_24 (by decide) rfl lf_X0_12 rfl (rs_24_0 hR j hj) <|
  WP.iload_n (pc2 := 21) (i := 2) rfl (by decide +kernel) rfl <|
  WP.callV (y := mX0_nextActTo) (index := 57) (pc2 := 24) (y' := mX6_cellOfAct) (vs := [.inl a2]) rfl (by decide +kernel) okX6_cellOfAct ⟨by decide, by decide⟩ ⟨lm_X0_57, ivX6_cellOfAct⟩ zSh_25 zc_6 (Nat.le_of_ble_eq_true rfl) ⟨rfl, rfl⟩ rfl (WP.c0i f10 (fun x3 _ f7 =>
  WP.iload_n (pc2 := 25) (i := 1) rfl (by decide +kernel) rfl <|
  WP.icmp_ne (pc2 := 28) (off := 5) (tgt := 30) rfl (by decide +kernel) (by decide) (fun h4 => have f5 := f7.1 h4
  WP.iinc (pc2 := 33) (i := 2) (d := 1) rfl (by decide +kernel) rfl f5.1 <|
  WP.goto (off := -28) (tgt := 5) (by decide +kernel) (by decide) <|
  f5.2) (fun h4 => have f6 := f7.2 h4
  WP.iload_n (pc2 := 29) (i := 2) rfl (by decide +kernel) rfl <|
  WP.iret (by decide +kernel) rfl (fun hx => ⟨_, rfl, hx, rfl, rfl, f6⟩)))))
set_option maxRecDepth 100000 in
set_option maxHeartbeats 4000000 in
theorem GX0_openActsTo {hi : zI} {hr : zR} {P : Int → Prop} (j : Int) (l1 : Int) (hj : 0 ≤ j ∧ j < 6)
    (F : W0i mX0_firstActNotOver [.inr (some (24, j))] hi hr (fun (x1 : Int) => WP mX0_openActsTo 7 [some (.inr (some (24, j))), some (.inl l1), some (.inl 0), some (.inl x1)] [] hi hr (zQ0i hi hr P))) :
    W0i mX0_openActsTo [.inr (some (24, j)), .inl l1] hi hr P :=
  WPm.of rfl (show WP mX0_openActsTo 0 [some (.inr (some (24, j))), some (.inl l1), none, none] [] hi hr (zQ0i hi hr P) from
  WP.iconst (pc2 := 1) (x := 0) rfl (by decide +kernel) (by decide) <|
  WP.istore_n (pc2 := 2) (i := 2) rfl (by decide +kernel) (by decide) <|
  WP.aload_n (pc2 := 3) (i := 0) rfl (by decide +kernel) rfl <|
  WP.callV (y := mX0_openActsTo) (index := 54) (pc2 := 6) (y' := mX0_firstActNotOver) (vs := []) rfl (by decide +kernel) okX0_firstActNotOver ⟨by decide, by decide⟩ ⟨lm_X0_54, ivX0_firstActNotOver⟩ zSh_24 zc_0 (Nat.le_of_ble_eq_true rfl) ⟨rfl, rfl⟩ rfl (WP.c0i F (fun x1 _ f2 =>
  WP.istore_n (pc2 := 7) (i := 3) rfl (by decide +kernel) (by decide) <|
  f2)))

set_option maxRecDepth 100000 in
set_option maxHeartbeats 4000000 in
theorem GX0_openActsTo_7 {hi : zI} {hr : zR} {P : Int → Prop} (hR : RSc hr) (j : Int) (l1 : Int) (a2 : Int) (a3 : Int) (hj : 0 ≤ j ∧ j < 6)
    (F : (hi 25 j 5 < a3 → P a2) ∧ (a3 ≤ hi 25 j 5 → (W0i mX6_cellOfAct [.inr (some (25, j)), .inl a3] hi hr (fun (x3 : Int) => (x3 ≠ l1 → ((zInR (a3 + 1)) ∧ (WP mX0_openActsTo 7 [some (.inr (some (24, j))), some (.inl l1), some (.inl a2), some (.inl (a3 + 1))] [] hi hr (zQ0i hi hr P)))) ∧ (x3 = l1 → ((zInR (a2 + 1)) ∧ ((zInR (a3 + 1)) ∧ (WP mX0_openActsTo 7 [some (.inr (some (24, j))), some (.inl l1), some (.inl (a2 + 1)), some (.inl (a3 + 1))] [] hi hr (zQ0i hi hr P))))))))) :
    WP mX0_openActsTo 7 [some (.inr (some (24, j))), some (.inl l1), some (.inl a2), some (.inl a3)] [] hi hr (zQ0i hi hr P) :=
  WP.iload_n (pc2 := 8) (i := 3) rfl (by decide +kernel) rfl <|
  WP.aload_n (pc2 := 9) (i := 0) rfl (by decide +kernel) rfl <|
  WP.getR (pc2 := 12) rfl (by decide +kernel) zc_0 zSh_24 (by decide) rfl lf_X0_12 rfl (rs_24_0 hR j hj) <|
  WP.getI (pc2 := 15) rfl (by decide +kernel) zc_6 zSh_25 (by decide) rfl lf_X0_51 rfl rfl <|
  WP.icmp_gt (pc2 := 18) (off := 24) (tgt := 39) rfl (by decide +kernel) (by decide) (fun h8 => have f9 := F.1 h8
  WP.iload_n (pc2 := 40) (i := 2) rfl (by decide +kernel) rfl <|
  WP.iret (by decide +kernel) rfl (fun hx => ⟨_, rfl, hx, rfl, rfl, f9⟩)) (fun h8 => have f10 := F.2 h8
  WP.aload_n (pc2 := 19) (i := 0) rfl (by decide +kernel) rfl <|
  WP.getR (pc2 := 22) rfl (by decide +kernel) zc_0 zSh_24 (by decide) rfl lf_X0_12 rfl (rs_24_0 hR j hj) <|
  WP.iload_n (pc2 := 23) (i := 3) rfl (by decide +kernel) rfl <|
  WP.callV (y := mX0_openActsTo) (index := 57) (pc2 := 26) (y' := mX6_cellOfAct) (vs := [.inl a3]) rfl (by decide +kernel) okX6_cellOfAct ⟨by decide, by decide⟩ ⟨lm_X0_57, ivX6_cellOfAct⟩ zSh_25 zc_6 (Nat.le_of_ble_eq_true rfl) ⟨rfl, rfl⟩ rfl (WP.c0i f10 (fun x3 _ f7 =>
  WP.iload_n (pc2 := 27) (i := 1) rfl (by decide +kernel) rfl <|
  WP.icmp_ne (pc2 := 30) (off := 6) (tgt := 33) rfl (by decide +kernel) (by decide) (fun h4 => have f5 := f7.1 h4
  WP.iinc (pc2 := 36) (i := 3) (d := 1) rfl (by decide +kernel) rfl f5.1 <|
  WP.goto (off := -29) (tgt := 7) (by decide +kernel) (by decide) <|
  f5.2) (fun h4 => have f6 := f7.2 h4
  WP.iinc (pc2 := 33) (i := 2) (d := 1) rfl (by decide +kernel) rfl f6.1 <|
  WP.iinc (pc2 := 36) (i := 3) (d := 1) rfl (by decide +kernel) rfl f6.2.1 <|
  WP.goto (off := -29) (tgt := 7) (by decide +kernel) (by decide) <|
  f6.2.2))))
set_option maxRecDepth 100000 in
set_option maxHeartbeats 4000000 in
theorem GX0_firstActNotOver {hi : zI} {hr : zR} {P : Int → Prop} (hR : RSc hr) (j : Int) (hj : 0 ≤ j ∧ j < 6)
    (F : W0i mX0_isDoneWhole [.inr (some (24, j))] hi hr (fun (x1 : Int) => (x1 = 0 → (W0i mX0_actsKnown [.inr (some (24, j))] hi hr (fun (x2 : Int) => WP mX0_firstActNotOver 22 [some (.inr (some (24, j))), some (.inl x2)] [] hi hr (zQ0i hi hr P)))) ∧ (x1 ≠ 0 → ((zInR ((hi 25 j 5) + 1)) ∧ (P ((hi 25 j 5) + 1)))))) :
    W0i mX0_firstActNotOver [.inr (some (24, j))] hi hr P :=
  WPm.of rfl (show WP mX0_firstActNotOver 0 [some (.inr (some (24, j))), none] [] hi hr (zQ0i hi hr P) from
  WP.aload_n (pc2 := 1) (i := 0) rfl (by decide +kernel) rfl <|
  WP.callV (y := mX0_firstActNotOver) (index := 61) (pc2 := 4) (y' := mX0_isDoneWhole) (vs := []) rfl (by decide +kernel) okX0_isDoneWhole ⟨by decide, by decide⟩ ⟨lm_X0_61, ivX0_isDoneWhole⟩ zSh_24 zc_0 (Nat.le_of_ble_eq_true rfl) ⟨rfl, rfl⟩ rfl (WP.c0i F (fun x1 _ f7 =>
  WP.if_eq (pc2 := 7) (off := 13) (tgt := 17) rfl (by decide +kernel) (by decide) (fun h4 => have f5 := f7.1 h4
  WP.aload_n (pc2 := 18) (i := 0) rfl (by decide +kernel) rfl <|
  WP.callV (y := mX0_firstActNotOver) (index := 47) (pc2 := 21) (y' := mX0_actsKnown) (vs := []) rfl (by decide +kernel) okX0_actsKnown ⟨by decide, by decide⟩ ⟨lm_X0_47, ivX0_actsKnown⟩ zSh_24 zc_0 (Nat.le_of_ble_eq_true rfl) ⟨rfl, rfl⟩ rfl (WP.c0i f5 (fun x2 _ f3 =>
  WP.istore_n (pc2 := 22) (i := 1) rfl (by decide +kernel) (by decide) <|
  f3))) (fun h4 => have f6 := f7.2 h4
  WP.aload_n (pc2 := 8) (i := 0) rfl (by decide +kernel) rfl <|
  WP.getR (pc2 := 11) rfl (by decide +kernel) zc_0 zSh_24 (by decide) rfl lf_X0_12 rfl (rs_24_0 hR j hj) <|
  WP.getI (pc2 := 14) rfl (by decide +kernel) zc_6 zSh_25 (by decide) rfl lf_X0_51 rfl rfl <|
  WP.iconst (pc2 := 15) (x := 1) rfl (by decide +kernel) (by decide) <|
  WP.iadd (pc2 := 16) rfl (by decide +kernel) f6.1 <|
  WP.iret (by decide +kernel) rfl (fun hx => ⟨_, rfl, hx, rfl, rfl, f6.2⟩)))))

set_option maxRecDepth 100000 in
set_option maxHeartbeats 4000000 in
theorem GX0_firstActNotOver_22 {hi : zI} {hr : zR} {P : Int → Prop} (hR : RSc hr) (j : Int) (a1 : Int) (hj : 0 ≤ j ∧ j < 6)
    (F : (a1 < 1 → P 1) ∧ (1 ≤ a1 → (W0i mX6_cellOfAct [.inr (some (25, j)), .inl a1] hi hr (fun (x8 : Int) => (x8 = -1 → ((zInR (a1 + (-1))) ∧ (WP mX0_firstActNotOver 22 [some (.inr (some (24, j))), some (.inl (a1 + (-1)))] [] hi hr (zQ0i hi hr P)))) ∧ (x8 ≠ -1 → P a1))))) :
    WP mX0_firstActNotOver 22 [some (.inr (some (24, j))), some (.inl a1)] [] hi hr (zQ0i hi hr P) :=
  WP.iload_n (pc2 := 23) (i := 1) rfl (by decide +kernel) rfl <|
  WP.iconst (pc2 := 24) (x := 1) rfl (by decide +kernel) (by decide) <|
  WP.icmp_lt (pc2 := 27) (off := 23) (tgt := 47) rfl (by decide +kernel) (by decide) (fun h13 => have f14 := F.1 h13
  WP.iconst (pc2 := 48) (x := 1) rfl (by decide +kernel) (by decide) <|
  WP.iret (by decide +kernel) rfl (fun hx => ⟨_, rfl, hx, rfl, rfl, f14⟩)) (fun h13 => have f15 := F.2 h13
  WP.aload_n (pc2 := 28) (i := 0) rfl (by decide +kernel) rfl <|
  WP.getR (pc2 := 31) rfl (by decide +kernel) zc_0 zSh_24 (by decide) rfl lf_X0_12 rfl (rs_24_0 hR j hj) <|
  WP.iload_n (pc2 := 32) (i := 1) rfl (by decide +kernel) rfl <|
  WP.callV (y := mX0_firstActNotOver) (index := 57) (pc2 := 35) (y' := mX6_cellOfAct) (vs := [.inl a1]) rfl (by decide +kernel) okX6_cellOfAct ⟨by decide, by decide⟩ ⟨lm_X0_57, ivX6_cellOfAct⟩ zSh_25 zc_6 (Nat.le_of_ble_eq_true rfl) ⟨rfl, rfl⟩ rfl (WP.c0i f15 (fun x8 _ f12 =>
  WP.iconst (pc2 := 36) (x := -1) rfl (by decide +kernel) (by decide) <|
  WP.icmp_eq (pc2 := 39) (off := 5) (tgt := 41) rfl (by decide +kernel) (by decide) (fun h9 => have f10 := f12.1 h9
  WP.iinc (pc2 := 44) (i := 1) (d := -1) rfl (by decide +kernel) rfl f10.1 <|
  WP.goto (off := -22) (tgt := 22) (by decide +kernel) (by decide) <|
  f10.2) (fun h9 => have f11 := f12.2 h9
  WP.iload_n (pc2 := 40) (i := 1) rfl (by decide +kernel) rfl <|
  WP.iret (by decide +kernel) rfl (fun hx => ⟨_, rfl, hx, rfl, rfl, f11⟩)))))
set_option maxRecDepth 100000 in
set_option maxHeartbeats 4000000 in
theorem GX1_beginAnew {hi : zI} {hr : zR} {P : zI → Prop} (j1 : Int) (hj1 : 0 ≤ j1 ∧ j1 < 2)
    (F : WP mX1_beginAnew 25 [some (.inr (some (17, 0))), some (.inr (some (30, j1))), some (.inl 0)] [] (zup (zup (zup hi 17 0 2 (if 6 < hi 30 j1 8 then 6 else hi 30 j1 8)) 17 0 3 (-1)) 17 0 4 (-1)) hr (zQ1v hr P)) :
    W1v mX1_beginAnew [.inr (some (17, 0)), .inr (some (30, j1))] hi hr P :=
  WPm.of rfl (show WP mX1_beginAnew 0 [some (.inr (some (17, 0))), some (.inr (some (30, j1))), none] [] hi hr (zQ1v hr P) from
  WP.aload_n (pc2 := 1) (i := 0) rfl (by decide +kernel) rfl <|
  WP.aload_n (pc2 := 2) (i := 1) rfl (by decide +kernel) rfl <|
  WP.getI (pc2 := 5) rfl (by decide +kernel) zc_10 zSh_30 (by decide) rfl lf_X1_32 rfl rfl <|
  WP.bipush (pc2 := 7) (x := 6) rfl (by decide +kernel) ⟨by decide +kernel, by decide⟩ <|
  WP.mmin (pc2 := 10) rfl (by decide +kernel) lm_X1_37 (by decide) (Nat.le_of_ble_eq_true rfl) <|
  WP.putI (pc2 := 13) rfl (by decide +kernel) zc_1 zSh_17 (by decide) rfl lf_X1_43 rfl (z_int _) rfl <|
  WP.aload_n (pc2 := 14) (i := 0) rfl (by decide +kernel) rfl <|
  WP.iconst (pc2 := 15) (x := -1) rfl (by decide +kernel) (by decide) <|
  WP.putI (pc2 := 18) rfl (by decide +kernel) zc_1 zSh_17 (by decide) rfl lf_X1_24 rfl (z_int _) rfl <|
  WP.aload_n (pc2 := 19) (i := 0) rfl (by decide +kernel) rfl <|
  WP.iconst (pc2 := 20) (x := -1) rfl (by decide +kernel) (by decide) <|
  WP.putI (pc2 := 23) rfl (by decide +kernel) zc_1 zSh_17 (by decide) rfl lf_X1_28 rfl (z_int _) rfl <|
  WP.iconst (pc2 := 24) (x := 0) rfl (by decide +kernel) (by decide) <|
  WP.istore_n (pc2 := 25) (i := 2) rfl (by decide +kernel) (by decide) <|
  F)

set_option maxRecDepth 100000 in
set_option maxHeartbeats 4000000 in
theorem GX1_beginAnew_25 {hi : zI} {hr : zR} {P : zI → Prop} (hR : RSc hr) (j1 : Int) (a2 : Int) (hj1 : 0 ≤ j1 ∧ j1 < 2)
    (F : (6 ≤ a2 → P hi) ∧ (a2 < 6 → ((0 ≤ a2 ∧ a2 < 6) ∧ (W0i mX10_parkingCell [.inr (some (30, j1)), .inl a2] hi hr (fun (x2 : Int) => W1v mX0_beginAnew [.inr (some (24, a2)), .inl x2] hi hr (fun (hi3 : zI) => (zInR (a2 + 1)) ∧ (WP mX1_beginAnew 25 [some (.inr (some (17, 0))), some (.inr (some (30, j1))), some (.inl (a2 + 1))] [] hi3 hr (zQ1v hr P)))))))) :
    WP mX1_beginAnew 25 [some (.inr (some (17, 0))), some (.inr (some (30, j1))), some (.inl a2)] [] hi hr (zQ1v hr P) :=
  WP.iload_n (pc2 := 26) (i := 2) rfl (by decide +kernel) rfl <|
  WP.bipush (pc2 := 28) (x := 6) rfl (by decide +kernel) ⟨by decide +kernel, by decide⟩ <|
  WP.icmp_ge (pc2 := 31) (off := 23) (tgt := 51) rfl (by decide +kernel) (by decide) (fun h6 => have f7 := F.1 h6
  WP.vret (by decide +kernel) rfl ⟨rfl, rfl, f7⟩) (fun h6 => have f8 := F.2 h6
  WP.aload_n (pc2 := 32) (i := 0) rfl (by decide +kernel) rfl <|
  WP.getR (pc2 := 35) rfl (by decide +kernel) zc_1 zSh_17 (by decide) rfl lf_X1_11 rfl (rs_17_0 hR) <|
  WP.iload_n (pc2 := 36) (i := 2) rfl (by decide +kernel) rfl <|
  WP.aaload (pc2 := 37) rfl (by decide +kernel) zSh_18 (by decide) rfl f8.1 (rs_18_e hR a2 f8.1) <|
  WP.aload_n (pc2 := 38) (i := 1) rfl (by decide +kernel) rfl <|
  WP.iload_n (pc2 := 39) (i := 2) rfl (by decide +kernel) rfl <|
  WP.callV (y := mX1_beginAnew) (index := 46) (pc2 := 42) (y' := mX10_parkingCell) (vs := [.inl a2]) rfl (by decide +kernel) okX10_parkingCell ⟨by decide, by decide⟩ ⟨lm_X1_46, ivX10_parkingCell⟩ zSh_30 zc_10 (Nat.le_of_ble_eq_true rfl) ⟨rfl, rfl⟩ rfl (WP.c0i f8.2 (fun x2 _ f5 =>
  WP.callV (y := mX1_beginAnew) (index := 50) (pc2 := 45) (y' := mX0_beginAnew) (vs := [.inl x2]) rfl (by decide +kernel) okX0_beginAnew ⟨by decide, by decide⟩ ⟨lm_X1_50, ivX0_beginAnew⟩ zSh_24 zc_0 (Nat.le_of_ble_eq_true rfl) ⟨rfl, rfl⟩ rfl (WP.c1v f5 (fun hi3 f4 =>
  WP.iinc (pc2 := 48) (i := 2) (d := 1) rfl (by decide +kernel) rfl f4.1 <|
  WP.goto (off := -23) (tgt := 25) (by decide +kernel) (by decide) <|
  f4.2)))))
set_option maxRecDepth 100000 in
set_option maxHeartbeats 4000000 in
theorem GX1_accountAt {hi : zI} {hr : zR} {P : Option (Nat × Int) → Prop} (hR : RSc hr) (l1 : Int) 
    (F : (l1 < 0 → P none) ∧ (0 ≤ l1 → ((hi 17 0 2 ≤ l1 → P none) ∧ (l1 < hi 17 0 2 → ((0 ≤ l1 ∧ l1 < 6) ∧ (P (some (24, l1)))))))) :
    W0r mX1_accountAt [.inr (some (17, 0)), .inl l1] hi hr P :=
  WPm.of rfl (show WP mX1_accountAt 0 [some (.inr (some (17, 0))), some (.inl l1)] [] hi hr (zQ0r hi hr P) from
  WP.iload_n (pc2 := 1) (i := 1) rfl (by decide +kernel) rfl <|
  WP.if_lt (pc2 := 4) (off := 20) (tgt := 21) rfl (by decide +kernel) (by decide) (fun h5 => have f6 := F.1 h5
  WP.null (pc2 := 22) rfl (by decide +kernel) <|
  WP.aret (by decide +kernel) rfl ⟨_, rfl, rfl, rfl, f6⟩) (fun h5 => have f7 := F.2 h5
  WP.iload_n (pc2 := 5) (i := 1) rfl (by decide +kernel) rfl <|
  WP.aload_n (pc2 := 6) (i := 0) rfl (by decide +kernel) rfl <|
  WP.getI (pc2 := 9) rfl (by decide +kernel) zc_1 zSh_17 (by decide) rfl lf_X1_43 rfl rfl <|
  WP.icmp_ge (pc2 := 12) (off := 12) (tgt := 21) rfl (by decide +kernel) (by decide) (fun h2 => have f3 := f7.1 h2
  WP.null (pc2 := 22) rfl (by decide +kernel) <|
  WP.aret (by decide +kernel) rfl ⟨_, rfl, rfl, rfl, f3⟩) (fun h2 => have f4 := f7.2 h2
  WP.aload_n (pc2 := 13) (i := 0) rfl (by decide +kernel) rfl <|
  WP.getR (pc2 := 16) rfl (by decide +kernel) zc_1 zSh_17 (by decide) rfl lf_X1_11 rfl (rs_17_0 hR) <|
  WP.iload_n (pc2 := 17) (i := 1) rfl (by decide +kernel) rfl <|
  WP.aaload (pc2 := 18) rfl (by decide +kernel) zSh_18 (by decide) rfl f4.1 (rs_18_e hR l1 f4.1) <|
  WP.goto (off := 4) (tgt := 22) (by decide +kernel) (by decide) <|
  WP.aret (by decide +kernel) rfl ⟨_, rfl, rfl, rfl, f4.2⟩)))
set_option maxRecDepth 100000 in
set_option maxHeartbeats 4000000 in
theorem GX1_waitingAt {hi : zI} {hr : zR} {P : Int → Prop} (l1 : Int) 
    (F : WP mX1_waitingAt 4 [some (.inr (some (17, 0))), some (.inl l1), some (.inl 0), some (.inl 0)] [] hi hr (zQ0i hi hr P)) :
    W0i mX1_waitingAt [.inr (some (17, 0)), .inl l1] hi hr P :=
  WPm.of rfl (show WP mX1_waitingAt 0 [some (.inr (some (17, 0))), some (.inl l1), none, none] [] hi hr (zQ0i hi hr P) from
  WP.iconst (pc2 := 1) (x := 0) rfl (by decide +kernel) (by decide) <|
  WP.istore_n (pc2 := 2) (i := 2) rfl (by decide +kernel) (by decide) <|
  WP.iconst (pc2 := 3) (x := 0) rfl (by decide +kernel) (by decide) <|
  WP.istore_n (pc2 := 4) (i := 3) rfl (by decide +kernel) (by decide) <|
  F)

set_option maxRecDepth 100000 in
set_option maxHeartbeats 4000000 in
theorem GX1_waitingAt_4 {hi : zI} {hr : zR} {P : Int → Prop} (hR : RSc hr) (l1 : Int) (a2 : Int) (a3 : Int) 
    (F : (hi 17 0 2 ≤ a3 → P a2) ∧ (a3 < hi 17 0 2 → ((0 ≤ a3 ∧ a3 < 6) ∧ (W0i mX0_openActsTo [.inr (some (24, a3)), .inl l1] hi hr (fun (x2 : Int) => (zInR (a2 + x2)) ∧ ((zInR (a3 + 1)) ∧ (WP mX1_waitingAt 4 [some (.inr (some (17, 0))), some (.inl l1), some (.inl (a2 + x2)), some (.inl (a3 + 1))] [] hi hr (zQ0i hi hr P)))))))) :
    WP mX1_waitingAt 4 [some (.inr (some (17, 0))), some (.inl l1), some (.inl a2), some (.inl a3)] [] hi hr (zQ0i hi hr P) :=
  WP.iload_n (pc2 := 5) (i := 3) rfl (by decide +kernel) rfl <|
  WP.aload_n (pc2 := 6) (i := 0) rfl (by decide +kernel) rfl <|
  WP.getI (pc2 := 9) rfl (by decide +kernel) zc_1 zSh_17 (by decide) rfl lf_X1_43 rfl rfl <|
  WP.icmp_ge (pc2 := 12) (off := 22) (tgt := 31) rfl (by decide +kernel) (by decide) (fun h4 => have f5 := F.1 h4
  WP.iload_n (pc2 := 32) (i := 2) rfl (by decide +kernel) rfl <|
  WP.iret (by decide +kernel) rfl (fun hx => ⟨_, rfl, hx, rfl, rfl, f5⟩)) (fun h4 => have f6 := F.2 h4
  WP.iload_n (pc2 := 13) (i := 2) rfl (by decide +kernel) rfl <|
  WP.aload_n (pc2 := 14) (i := 0) rfl (by decide +kernel) rfl <|
  WP.getR (pc2 := 17) rfl (by decide +kernel) zc_1 zSh_17 (by decide) rfl lf_X1_11 rfl (rs_17_0 hR) <|
  WP.iload_n (pc2 := 18) (i := 3) rfl (by decide +kernel) rfl <|
  WP.aaload (pc2 := 19) rfl (by decide +kernel) zSh_18 (by decide) rfl f6.1 (rs_18_e hR a3 f6.1) <|
  WP.iload_n (pc2 := 20) (i := 1) rfl (by decide +kernel) rfl <|
  WP.callV (y := mX1_waitingAt) (index := 54) (pc2 := 23) (y' := mX0_openActsTo) (vs := [.inl l1]) rfl (by decide +kernel) okX0_openActsTo ⟨by decide, by decide⟩ ⟨lm_X1_54, ivX0_openActsTo⟩ zSh_24 zc_0 (Nat.le_of_ble_eq_true rfl) ⟨rfl, rfl⟩ rfl (WP.c0i f6.2 (fun x2 _ f3 =>
  WP.iadd (pc2 := 24) rfl (by decide +kernel) f3.1 <|
  WP.istore_n (pc2 := 25) (i := 2) rfl (by decide +kernel) (by decide) <|
  WP.iinc (pc2 := 28) (i := 3) (d := 1) rfl (by decide +kernel) rfl f3.2.1 <|
  WP.goto (off := -24) (tgt := 4) (by decide +kernel) (by decide) <|
  f3.2.2)))
set_option maxRecDepth 100000 in
set_option maxHeartbeats 4000000 in
theorem GX1_firstWaitingAt {hi : zI} {hr : zR} {P : Int → Prop} (l1 : Int) 
    (F : WP mX1_firstWaitingAt 7 [some (.inr (some (17, 0))), some (.inl l1), some (.inl (-1)), some (.inl 0), some (.inl 0), none, none] [] hi hr (zQ0i hi hr P)) :
    W0i mX1_firstWaitingAt [.inr (some (17, 0)), .inl l1] hi hr P :=
  WPm.of rfl (show WP mX1_firstWaitingAt 0 [some (.inr (some (17, 0))), some (.inl l1), none, none, none, none, none] [] hi hr (zQ0i hi hr P) from
  WP.iconst (pc2 := 1) (x := -1) rfl (by decide +kernel) (by decide) <|
  WP.istore_n (pc2 := 2) (i := 2) rfl (by decide +kernel) (by decide) <|
  WP.iconst (pc2 := 3) (x := 0) rfl (by decide +kernel) (by decide) <|
  WP.istore_n (pc2 := 4) (i := 3) rfl (by decide +kernel) (by decide) <|
  WP.iconst (pc2 := 5) (x := 0) rfl (by decide +kernel) (by decide) <|
  WP.istore (pc2 := 7) (i := 4) rfl (by decide +kernel) (by decide) <|
  F)

set_option maxRecDepth 100000 in
set_option maxHeartbeats 4000000 in
theorem GX1_firstWaitingAt_7 {hi : zI} {hr : zR} {P : Int → Prop} (hR : RSc hr) (l1 : Int) (a2 : Int) (a3 : Int) (a4 : Int) (u5 : Option zV) (u6 : Option zV) 
    (F : (hi 17 0 2 ≤ a4 → P a2) ∧ (a4 < hi 17 0 2 → ((0 ≤ a4 ∧ a4 < 6) ∧ (W0i mX0_nextActTo [.inr (some (24, a4)), .inl l1] hi hr (fun (x22 : Int) => (0 ≤ a4 ∧ a4 < 6) ∧ (W0i mX6_momentOfAct [.inr (some (25, a4)), .inl x22] hi hr (fun (x24 : Int) => (x22 = 0 → ((zInR (a4 + 1)) ∧ (WP mX1_firstWaitingAt 7 [some (.inr (some (17, 0))), some (.inl l1), some (.inl a2), some (.inl a3), some (.inl (a4 + 1)), some (.inl x22), some (.inl x24)] [] hi hr (zQ0i hi hr P)))) ∧ (x22 ≠ 0 → ((a2 = -1 → ((zInR (a4 + 1)) ∧ (WP mX1_firstWaitingAt 7 [some (.inr (some (17, 0))), some (.inl l1), some (.inl a4), some (.inl x24), some (.inl (a4 + 1)), some (.inl x22), some (.inl x24)] [] hi hr (zQ0i hi hr P)))) ∧ (a2 ≠ -1 → ((a3 ≤ x24 → ((zInR (a4 + 1)) ∧ (WP mX1_firstWaitingAt 7 [some (.inr (some (17, 0))), some (.inl l1), some (.inl a2), some (.inl a3), some (.inl (a4 + 1)), some (.inl x22), some (.inl x24)] [] hi hr (zQ0i hi hr P)))) ∧ (x24 < a3 → ((zInR (a4 + 1)) ∧ (WP mX1_firstWaitingAt 7 [some (.inr (some (17, 0))), some (.inl l1), some (.inl a4), some (.inl x24), some (.inl (a4 + 1)), some (.inl x22), some (.inl x24)] [] hi hr (zQ0i hi hr P))))))))))))))) :
    WP mX1_firstWaitingAt 7 [some (.inr (some (17, 0))), some (.inl l1), some (.inl a2), some (.inl a3), some (.inl a4), u5, u6] [] hi hr (zQ0i hi hr P) :=
  WP.iload (pc2 := 9) (i := 4) rfl (by decide +kernel) rfl <|
  WP.aload_n (pc2 := 10) (i := 0) rfl (by decide +kernel) rfl <|
  WP.getI (pc2 := 13) rfl (by decide +kernel) zc_1 zSh_17 (by decide) rfl lf_X1_43 rfl rfl <|
  WP.icmp_ge (pc2 := 16) (off := 61) (tgt := 74) rfl (by decide +kernel) (by decide) (fun h36 => have f37 := F.1 h36
  WP.iload_n (pc2 := 75) (i := 2) rfl (by decide +kernel) rfl <|
  WP.iret (by decide +kernel) rfl (fun hx => ⟨_, rfl, hx, rfl, rfl, f37⟩)) (fun h36 => have f38 := F.2 h36
  WP.aload_n (pc2 := 17) (i := 0) rfl (by decide +kernel) rfl <|
  WP.getR (pc2 := 20) rfl (by decide +kernel) zc_1 zSh_17 (by decide) rfl lf_X1_11 rfl (rs_17_0 hR) <|
  WP.iload (pc2 := 22) (i := 4) rfl (by decide +kernel) rfl <|
  WP.aaload (pc2 := 23) rfl (by decide +kernel) zSh_18 (by decide) rfl f38.1 (rs_18_e hR a4 f38.1) <|
  WP.iload_n (pc2 := 24) (i := 1) rfl (by decide +kernel) rfl <|
  WP.callV (y := mX1_firstWaitingAt) (index := 57) (pc2 := 27) (y' := mX0_nextActTo) (vs := [.inl l1]) rfl (by decide +kernel) okX0_nextActTo ⟨by decide, by decide⟩ ⟨lm_X1_57, ivX0_nextActTo⟩ zSh_24 zc_0 (Nat.le_of_ble_eq_true rfl) ⟨rfl, rfl⟩ rfl (WP.c0i f38.2 (fun x22 _ f35 =>
  WP.istore (pc2 := 29) (i := 5) rfl (by decide +kernel) (by decide) <|
  WP.aload_n (pc2 := 30) (i := 0) rfl (by decide +kernel) rfl <|
  WP.getR (pc2 := 33) rfl (by decide +kernel) zc_1 zSh_17 (by decide) rfl lf_X1_11 rfl (rs_17_0 hR) <|
  WP.iload (pc2 := 35) (i := 4) rfl (by decide +kernel) rfl <|
  WP.aaload (pc2 := 36) rfl (by decide +kernel) zSh_18 (by decide) rfl f35.1 (rs_18_e hR a4 f35.1) <|
  WP.getR (pc2 := 39) rfl (by decide +kernel) zc_0 zSh_24 (by decide) rfl lf_X1_60 rfl (rs_24_0 hR a4 (f35.1)) <|
  WP.iload (pc2 := 41) (i := 5) rfl (by decide +kernel) rfl <|
  WP.callV (y := mX1_firstWaitingAt) (index := 64) (pc2 := 44) (y' := mX6_momentOfAct) (vs := [.inl x22]) rfl (by decide +kernel) okX6_momentOfAct ⟨by decide, by decide⟩ ⟨lm_X1_64, ivX6_momentOfAct⟩ zSh_25 zc_6 (Nat.le_of_ble_eq_true rfl) ⟨rfl, rfl⟩ rfl (WP.c0i f35.2 (fun x24 _ f34 =>
  WP.istore (pc2 := 46) (i := 6) rfl (by decide +kernel) (by decide) <|
  WP.iload (pc2 := 48) (i := 5) rfl (by decide +kernel) rfl <|
  WP.if_eq (pc2 := 51) (off := 20) (tgt := 68) rfl (by decide +kernel) (by decide) (fun h31 => have f32 := f34.1 h31
  WP.iinc (pc2 := 71) (i := 4) (d := 1) rfl (by decide +kernel) rfl f32.1 <|
  WP.goto (off := -64) (tgt := 7) (by decide +kernel) (by decide) <|
  f32.2) (fun h31 => have f33 := f34.2 h31
  WP.iload_n (pc2 := 52) (i := 2) rfl (by decide +kernel) rfl <|
  WP.iconst (pc2 := 53) (x := -1) rfl (by decide +kernel) (by decide) <|
  WP.icmp_eq (pc2 := 56) (off := 9) (tgt := 62) rfl (by decide +kernel) (by decide) (fun h28 => have f29 := f33.1 h28
  WP.iload (pc2 := 64) (i := 4) rfl (by decide +kernel) rfl <|
  WP.istore_n (pc2 := 65) (i := 2) rfl (by decide +kernel) (by decide) <|
  WP.iload (pc2 := 67) (i := 6) rfl (by decide +kernel) rfl <|
  WP.istore_n (pc2 := 68) (i := 3) rfl (by decide +kernel) (by decide) <|
  WP.iinc (pc2 := 71) (i := 4) (d := 1) rfl (by decide +kernel) rfl f29.1 <|
  WP.goto (off := -64) (tgt := 7) (by decide +kernel) (by decide) <|
  f29.2) (fun h28 => have f30 := f33.2 h28
  WP.iload (pc2 := 58) (i := 6) rfl (by decide +kernel) rfl <|
  WP.iload_n (pc2 := 59) (i := 3) rfl (by decide +kernel) rfl <|
  WP.icmp_ge (pc2 := 62) (off := 9) (tgt := 68) rfl (by decide +kernel) (by decide) (fun h25 => have f26 := f30.1 h25
  WP.iinc (pc2 := 71) (i := 4) (d := 1) rfl (by decide +kernel) rfl f26.1 <|
  WP.goto (off := -64) (tgt := 7) (by decide +kernel) (by decide) <|
  f26.2) (fun h25 => have f27 := f30.2 h25
  WP.iload (pc2 := 64) (i := 4) rfl (by decide +kernel) rfl <|
  WP.istore_n (pc2 := 65) (i := 2) rfl (by decide +kernel) (by decide) <|
  WP.iload (pc2 := 67) (i := 6) rfl (by decide +kernel) rfl <|
  WP.istore_n (pc2 := 68) (i := 3) rfl (by decide +kernel) (by decide) <|
  WP.iinc (pc2 := 71) (i := 4) (d := 1) rfl (by decide +kernel) rfl f27.1 <|
  WP.goto (off := -64) (tgt := 7) (by decide +kernel) (by decide) <|
  f27.2))))))))
set_option maxRecDepth 100000 in
set_option maxHeartbeats 4000000 in
theorem GX1_noteFinished {hi : zI} {hr : zR} {P : zI → Prop} (l2 : Int) 
    (F : WP mX1_noteFinished 2 [some (.inr (some (17, 0))), some (.inr (some (11, 0))), some (.inl l2), some (.inl 0), none] [] hi hr (zQ1v hr P)) :
    W1v mX1_noteFinished [.inr (some (17, 0)), .inr (some (11, 0)), .inl l2] hi hr P :=
  WPm.of rfl (show WP mX1_noteFinished 0 [some (.inr (some (17, 0))), some (.inr (some (11, 0))), some (.inl l2), none, none] [] hi hr (zQ1v hr P) from
  WP.iconst (pc2 := 1) (x := 0) rfl (by decide +kernel) (by decide) <|
  WP.istore_n (pc2 := 2) (i := 3) rfl (by decide +kernel) (by decide) <|
  F)

set_option maxRecDepth 100000 in
set_option maxHeartbeats 4000000 in
theorem GX1_noteFinished_2 {hi : zI} {hr : zR} {P : zI → Prop} (hR : RSc hr) (l2 : Int) (a3 : Int) (u4 : Option zV) 
    (F : (hi 17 0 2 ≤ a3 → P hi) ∧ (a3 < hi 17 0 2 → ((0 ≤ a3 ∧ a3 < 6) ∧ (W0i mX0_isIdle [.inr (some (24, a3))] hi hr (fun (x19 : Int) => (x19 ≠ 0 → ((zInR (a3 + 1)) ∧ (WP mX1_noteFinished 2 [some (.inr (some (17, 0))), some (.inr (some (11, 0))), some (.inl l2), some (.inl (a3 + 1)), some (.inr (some (24, a3)))] [] hi hr (zQ1v hr P)))) ∧ (x19 = 0 → (W0i mX0_isDoneWhole [.inr (some (24, a3))] hi hr (fun (x20 : Int) => (x20 = 0 → ((zInR (a3 + 1)) ∧ (WP mX1_noteFinished 2 [some (.inr (some (17, 0))), some (.inr (some (11, 0))), some (.inl l2), some (.inl (a3 + 1)), some (.inr (some (24, a3)))] [] hi hr (zQ1v hr P)))) ∧ (x20 ≠ 0 → (W1v mX8_finish [.inr (some (11, 0)), .inl (hi 24 a3 2), .inl l2] hi hr (fun (hi21 : zI) => (zInR (a3 + 1)) ∧ (WP mX1_noteFinished 2 [some (.inr (some (17, 0))), some (.inr (some (11, 0))), some (.inl l2), some (.inl (a3 + 1)), some (.inr (some (24, a3)))] [] (zup hi21 24 a3 2 (-1)) hr (zQ1v hr P))))))))))))) :
    WP mX1_noteFinished 2 [some (.inr (some (17, 0))), some (.inr (some (11, 0))), some (.inl l2), some (.inl a3), u4] [] hi hr (zQ1v hr P) :=
  WP.iload_n (pc2 := 3) (i := 3) rfl (by decide +kernel) rfl <|
  WP.aload_n (pc2 := 4) (i := 0) rfl (by decide +kernel) rfl <|
  WP.getI (pc2 := 7) rfl (by decide +kernel) zc_1 zSh_17 (by decide) rfl lf_X1_43 rfl rfl <|
  WP.icmp_ge (pc2 := 10) (off := 49) (tgt := 56) rfl (by decide +kernel) (by decide) (fun h31 => have f32 := F.1 h31
  WP.vret (by decide +kernel) rfl ⟨rfl, rfl, f32⟩) (fun h31 => have f33 := F.2 h31
  WP.aload_n (pc2 := 11) (i := 0) rfl (by decide +kernel) rfl <|
  WP.getR (pc2 := 14) rfl (by decide +kernel) zc_1 zSh_17 (by decide) rfl lf_X1_11 rfl (rs_17_0 hR) <|
  WP.iload_n (pc2 := 15) (i := 3) rfl (by decide +kernel) rfl <|
  WP.aaload (pc2 := 16) rfl (by decide +kernel) zSh_18 (by decide) rfl f33.1 (rs_18_e hR a3 f33.1) <|
  WP.astore (pc2 := 18) (i := 4) rfl (by decide +kernel) (by decide) <|
  WP.aload (pc2 := 20) (i := 4) rfl (by decide +kernel) rfl <|
  WP.callV (y := mX1_noteFinished) (index := 69) (pc2 := 23) (y' := mX0_isIdle) (vs := []) rfl (by decide +kernel) okX0_isIdle ⟨by decide, by decide⟩ ⟨lm_X1_69, ivX0_isIdle⟩ zSh_24 zc_0 (Nat.le_of_ble_eq_true rfl) ⟨rfl, rfl⟩ rfl (WP.c0i f33.2 (fun x19 _ f30 =>
  WP.if_ne (pc2 := 26) (off := 27) (tgt := 50) rfl (by decide +kernel) (by decide) (fun h27 => have f28 := f30.1 h27
  WP.iinc (pc2 := 53) (i := 3) (d := 1) rfl (by decide +kernel) rfl f28.1 <|
  WP.goto (off := -51) (tgt := 2) (by decide +kernel) (by decide) <|
  f28.2) (fun h27 => have f29 := f30.2 h27
  WP.aload (pc2 := 28) (i := 4) rfl (by decide +kernel) rfl <|
  WP.callV (y := mX1_noteFinished) (index := 73) (pc2 := 31) (y' := mX0_isDoneWhole) (vs := []) rfl (by decide +kernel) okX0_isDoneWhole ⟨by decide, by decide⟩ ⟨lm_X1_73, ivX0_isDoneWhole⟩ zSh_24 zc_0 (Nat.le_of_ble_eq_true rfl) ⟨rfl, rfl⟩ rfl (WP.c0i f29 (fun x20 _ f26 =>
  WP.if_eq (pc2 := 34) (off := 19) (tgt := 50) rfl (by decide +kernel) (by decide) (fun h23 => have f24 := f26.1 h23
  WP.iinc (pc2 := 53) (i := 3) (d := 1) rfl (by decide +kernel) rfl f24.1 <|
  WP.goto (off := -51) (tgt := 2) (by decide +kernel) (by decide) <|
  f24.2) (fun h23 => have f25 := f26.2 h23
  WP.aload_n (pc2 := 35) (i := 1) rfl (by decide +kernel) rfl <|
  WP.aload (pc2 := 37) (i := 4) rfl (by decide +kernel) rfl <|
  WP.getI (pc2 := 40) rfl (by decide +kernel) zc_0 zSh_24 (by decide) rfl lf_X1_76 rfl rfl <|
  WP.iload_n (pc2 := 41) (i := 2) rfl (by decide +kernel) rfl <|
  WP.callV (y := mX1_noteFinished) (index := 79) (pc2 := 44) (y' := mX8_finish) (vs := [.inl (hi 24 a3 2), .inl l2]) rfl (by decide +kernel) okX8_finish ⟨by decide, by decide⟩ ⟨lm_X1_79, ivX8_finish⟩ zSh_11 zc_8 (Nat.le_of_ble_eq_true rfl) ⟨rfl, rfl⟩ rfl (WP.c1v f25 (fun hi21 f22 =>
  WP.aload (pc2 := 46) (i := 4) rfl (by decide +kernel) rfl <|
  WP.iconst (pc2 := 47) (x := -1) rfl (by decide +kernel) (by decide) <|
  WP.putI (pc2 := 50) rfl (by decide +kernel) zc_0 zSh_24 (by decide) rfl lf_X1_76 rfl (z_int _) rfl <|
  WP.iinc (pc2 := 53) (i := 3) (d := 1) rfl (by decide +kernel) rfl f22.1 <|
  WP.goto (off := -51) (tgt := 2) (by decide +kernel) (by decide) <|
  f22.2)))))))))
set_option maxRecDepth 100000 in
set_option maxHeartbeats 4000000 in
theorem GX1_handOut {hi : zI} {hr : zR} {P : zI → zR → Prop} (j1 : Int) (l3 : Int) (hj1 : 0 ≤ j1 ∧ j1 < 2)
    (F : WP mX1_handOut 6 [some (.inr (some (17, 0))), some (.inr (some (30, j1))), some (.inr (some (11, 0))), some (.inl l3), some (.inl (hi 11 0 6)), none] [] hi hr (zQ2v P)) :
    W2v mX1_handOut [.inr (some (17, 0)), .inr (some (30, j1)), .inr (some (11, 0)), .inl l3] hi hr P :=
  WPm.of rfl (show WP mX1_handOut 0 [some (.inr (some (17, 0))), some (.inr (some (30, j1))), some (.inr (some (11, 0))), some (.inl l3), none, none] [] hi hr (zQ2v P) from
  WP.aload_n (pc2 := 1) (i := 2) rfl (by decide +kernel) rfl <|
  WP.getI (pc2 := 4) rfl (by decide +kernel) zc_8 zSh_11 (by decide) rfl lf_X1_85 rfl rfl <|
  WP.istore (pc2 := 6) (i := 4) rfl (by decide +kernel) (by decide) <|
  F)

set_option maxRecDepth 100000 in
set_option maxHeartbeats 4000000 in
theorem GX1_handOut_6 {hi : zI} {hr : zR} {P : zI → zR → Prop} (hR : RSc hr) (j1 : Int) (l3 : Int) (a4 : Int) (u5 : Option zV) (hj1 : 0 ≤ j1 ∧ j1 < 2)
    (F : (hi 11 0 5 ≤ a4 → P hi hr) ∧ (a4 < hi 11 0 5 → (W0i mX1_leastIdle [.inr (some (17, 0))] hi hr (fun (x16 : Int) => (x16 = -1 → P hi hr) ∧ (x16 ≠ -1 → (W2i mX1_givePlan [.inr (some (17, 0)), .inr (some (30, j1)), .inl x16, .inr (some (11, 0)), .inl a4, .inl l3] hi hr (fun (x17 : Int) (hi18 : zI) (hr19 : zR) => RSc hr19 ∧ ((x17 ≠ 0 → ((zInR (a4 + 1)) ∧ (WP mX1_handOut 6 [some (.inr (some (17, 0))), some (.inr (some (30, j1))), some (.inr (some (11, 0))), some (.inl l3), some (.inl (a4 + 1)), some (.inl x16)] [] hi18 hr19 (zQ2v P)))) ∧ (x17 = 0 → P hi18 hr19))))))))) :
    WP mX1_handOut 6 [some (.inr (some (17, 0))), some (.inr (some (30, j1))), some (.inr (some (11, 0))), some (.inl l3), some (.inl a4), u5] [] hi hr (zQ2v P) :=
  WP.iload (pc2 := 8) (i := 4) rfl (by decide +kernel) rfl <|
  WP.aload_n (pc2 := 9) (i := 2) rfl (by decide +kernel) rfl <|
  WP.getI (pc2 := 12) rfl (by decide +kernel) zc_8 zSh_11 (by decide) rfl lf_X1_88 rfl rfl <|
  WP.icmp_ge (pc2 := 15) (off := 36) (tgt := 48) rfl (by decide +kernel) (by decide) (fun h28 => have f29 := F.1 h28
  WP.vret (by decide +kernel) rfl ⟨rfl, trivial, f29⟩) (fun h28 => have f30 := F.2 h28
  WP.aload_n (pc2 := 16) (i := 0) rfl (by decide +kernel) rfl <|
  WP.callV (y := mX1_handOut) (index := 91) (pc2 := 19) (y' := mX1_leastIdle) (vs := []) rfl (by decide +kernel) okX1_leastIdle ⟨by decide, by decide⟩ ⟨lm_X1_91, ivX1_leastIdle⟩ zSh_17 zc_1 (Nat.le_of_ble_eq_true rfl) ⟨rfl, rfl⟩ rfl (WP.c0i f30 (fun x16 _ f27 =>
  WP.istore (pc2 := 21) (i := 5) rfl (by decide +kernel) (by decide) <|
  WP.iload (pc2 := 23) (i := 5) rfl (by decide +kernel) rfl <|
  WP.iconst (pc2 := 24) (x := -1) rfl (by decide +kernel) (by decide) <|
  WP.icmp_eq (pc2 := 27) (off := 17) (tgt := 41) rfl (by decide +kernel) (by decide) (fun h24 => have f25 := f27.1 h24
  WP.vret (by decide +kernel) rfl ⟨rfl, trivial, f25⟩) (fun h24 => have f26 := f27.2 h24
  WP.aload_n (pc2 := 28) (i := 0) rfl (by decide +kernel) rfl <|
  WP.aload_n (pc2 := 29) (i := 1) rfl (by decide +kernel) rfl <|
  WP.iload (pc2 := 31) (i := 5) rfl (by decide +kernel) rfl <|
  WP.aload_n (pc2 := 32) (i := 2) rfl (by decide +kernel) rfl <|
  WP.iload (pc2 := 34) (i := 4) rfl (by decide +kernel) rfl <|
  WP.iload_n (pc2 := 35) (i := 3) rfl (by decide +kernel) rfl <|
  WP.callV (y := mX1_handOut) (index := 95) (pc2 := 38) (y' := mX1_givePlan) (vs := [.inr (some (30, j1)), .inl x16, .inr (some (11, 0)), .inl a4, .inl l3]) rfl (by decide +kernel) okX1_givePlan ⟨by decide, by decide⟩ ⟨lm_X1_95, ivX1_givePlan⟩ zSh_17 zc_1 (Nat.le_of_ble_eq_true rfl) ⟨rfl, rfl⟩ rfl (WP.c2i f26 (fun x17 hi18 hr19 _ f23 =>
  have hRxhr19 := f23.1
  WP.if_ne (pc2 := 41) (off := 4) (tgt := 42) rfl (by decide +kernel) (by decide) (fun h20 => have f21 := f23.2.1 h20
  WP.iinc (pc2 := 45) (i := 4) (d := 1) rfl (by decide +kernel) rfl f21.1 <|
  WP.goto (off := -39) (tgt := 6) (by decide +kernel) (by decide) <|
  f21.2) (fun h20 => have f22 := f23.2.2 h20
  WP.vret (by decide +kernel) rfl ⟨rfl, trivial, f22⟩)))))))
set_option maxRecDepth 100000 in
set_option maxHeartbeats 4000000 in
theorem GX1_leastIdle {hi : zI} {hr : zR} {P : Int → Prop}  
    (F : WP mX1_leastIdle 2 [some (.inr (some (17, 0))), some (.inl 0)] [] hi hr (zQ0i hi hr P)) :
    W0i mX1_leastIdle [.inr (some (17, 0))] hi hr P :=
  WPm.of rfl (show WP mX1_leastIdle 0 [some (.inr (some (17, 0))), none] [] hi hr (zQ0i hi hr P) from
  WP.iconst (pc2 := 1) (x := 0) rfl (by decide +kernel) (by decide) <|
  WP.istore_n (pc2 := 2) (i := 1) rfl (by decide +kernel) (by decide) <|
  F)

set_option maxRecDepth 100000 in
set_option maxHeartbeats 4000000 in
theorem GX1_leastIdle_2 {hi : zI} {hr : zR} {P : Int → Prop} (hR : RSc hr) (a1 : Int) 
    (F : (hi 17 0 2 ≤ a1 → (P (-1))) ∧ (a1 < hi 17 0 2 → ((0 ≤ a1 ∧ a1 < 6) ∧ (W0i mX0_isIdle [.inr (some (24, a1))] hi hr (fun (x2 : Int) => (x2 = 0 → ((zInR (a1 + 1)) ∧ (WP mX1_leastIdle 2 [some (.inr (some (17, 0))), some (.inl (a1 + 1))] [] hi hr (zQ0i hi hr P)))) ∧ (x2 ≠ 0 → P a1)))))) :
    WP mX1_leastIdle 2 [some (.inr (some (17, 0))), some (.inl a1)] [] hi hr (zQ0i hi hr P) :=
  WP.iload_n (pc2 := 3) (i := 1) rfl (by decide +kernel) rfl <|
  WP.aload_n (pc2 := 4) (i := 0) rfl (by decide +kernel) rfl <|
  WP.getI (pc2 := 7) rfl (by decide +kernel) zc_1 zSh_17 (by decide) rfl lf_X1_43 rfl rfl <|
  WP.icmp_ge (pc2 := 10) (off := 23) (tgt := 30) rfl (by decide +kernel) (by decide) (fun h7 => have f8 := F.1 h7
  WP.iconst (pc2 := 31) (x := -1) rfl (by decide +kernel) (by decide) <|
  WP.iret (by decide +kernel) rfl (fun hx => ⟨_, rfl, hx, rfl, rfl, f8⟩)) (fun h7 => have f9 := F.2 h7
  WP.aload_n (pc2 := 11) (i := 0) rfl (by decide +kernel) rfl <|
  WP.getR (pc2 := 14) rfl (by decide +kernel) zc_1 zSh_17 (by decide) rfl lf_X1_11 rfl (rs_17_0 hR) <|
  WP.iload_n (pc2 := 15) (i := 1) rfl (by decide +kernel) rfl <|
  WP.aaload (pc2 := 16) rfl (by decide +kernel) zSh_18 (by decide) rfl f9.1 (rs_18_e hR a1 f9.1) <|
  WP.callV (y := mX1_leastIdle) (index := 69) (pc2 := 19) (y' := mX0_isIdle) (vs := []) rfl (by decide +kernel) okX0_isIdle ⟨by decide, by decide⟩ ⟨lm_X1_69, ivX0_isIdle⟩ zSh_24 zc_0 (Nat.le_of_ble_eq_true rfl) ⟨rfl, rfl⟩ rfl (WP.c0i f9.2 (fun x2 _ f6 =>
  WP.if_eq (pc2 := 22) (off := 5) (tgt := 24) rfl (by decide +kernel) (by decide) (fun h3 => have f4 := f6.1 h3
  WP.iinc (pc2 := 27) (i := 1) (d := 1) rfl (by decide +kernel) rfl f4.1 <|
  WP.goto (off := -25) (tgt := 2) (by decide +kernel) (by decide) <|
  f4.2) (fun h3 => have f5 := f6.2 h3
  WP.iload_n (pc2 := 23) (i := 1) rfl (by decide +kernel) rfl <|
  WP.iret (by decide +kernel) rfl (fun hx => ⟨_, rfl, hx, rfl, rfl, f5⟩)))))
set_option maxRecDepth 100000 in
set_option maxHeartbeats 4000000 in
theorem GX1_givePlan {hi : zI} {hr : zR} {P : Int → zI → zR → Prop} (hR : RSc hr) (j1 : Int) (l2 : Int) (l4 : Int) (l5 : Int) (hj1 : 0 ≤ j1 ∧ j1 < 2)
    (F : (l2 < 0 → P 0 hi hr) ∧ (0 ≤ l2 → ((6 ≤ l2 → P 0 hi hr) ∧ (l2 < 6 → (W0i mX8_has [.inr (some (11, 0)), .inl l4] hi hr (fun (x1 : Int) => (x1 ≠ 0 → ((hi 17 0 3 ≠ l4 → ((0 ≤ l4 ∧ l4 < 60) ∧ (W0i mX10_stationCell [.inr (some (30, j1)), .inl (hi 12 0 l4)] hi hr (fun (x2 : Int) => (0 ≤ l4 ∧ l4 < 60) ∧ (W0i mX10_stationCell [.inr (some (30, j1)), .inl (hi 13 0 l4)] hi hr (fun (x3 : Int) => W2i mX4_findTrip [.inr (some (19, 0)), .inr (some (30, j1)), .inr (some (18, 0)), .inl l2, .inl x2, .inl x3, .inl l5] hi hr (fun (x4 : Int) (hi5 : zI) (hr6 : zR) => RSc hr6 ∧ ((x4 ≠ 0 → ((0 ≤ l2 ∧ l2 < 6) ∧ (W1v mX0_take [.inr (some (24, l2)), .inl l4] hi5 hr6 (fun (hi8 : zI) => W1v mX8_give [.inr (some (11, 0)), .inl l4, .inl l2, .inl l5] hi8 hr6 (fun (hi9 : zI) => P 1 hi9 hr6))))) ∧ (x4 = 0 → (W1v mX1_noteHopeless [.inr (some (17, 0)), .inl l2, .inl l4, .inl l5] hi5 hr6 (fun (hi12 : zI) => P 0 hi12 hr6))))))))))) ∧ (hi 17 0 3 = l4 → ((hi 17 0 4 ≠ l2 → ((0 ≤ l4 ∧ l4 < 60) ∧ (W0i mX10_stationCell [.inr (some (30, j1)), .inl (hi 12 0 l4)] hi hr (fun (x20 : Int) => (0 ≤ l4 ∧ l4 < 60) ∧ (W0i mX10_stationCell [.inr (some (30, j1)), .inl (hi 13 0 l4)] hi hr (fun (x21 : Int) => W2i mX4_findTrip [.inr (some (19, 0)), .inr (some (30, j1)), .inr (some (18, 0)), .inl l2, .inl x20, .inl x21, .inl l5] hi hr (fun (x22 : Int) (hi23 : zI) (hr24 : zR) => RSc hr24 ∧ ((x22 ≠ 0 → ((0 ≤ l2 ∧ l2 < 6) ∧ (W1v mX0_take [.inr (some (24, l2)), .inl l4] hi23 hr24 (fun (hi26 : zI) => W1v mX8_give [.inr (some (11, 0)), .inl l4, .inl l2, .inl l5] hi26 hr24 (fun (hi27 : zI) => P 1 hi27 hr24))))) ∧ (x22 = 0 → (W1v mX1_noteHopeless [.inr (some (17, 0)), .inl l2, .inl l4, .inl l5] hi23 hr24 (fun (hi30 : zI) => P 0 hi30 hr24))))))))))) ∧ (hi 17 0 4 = l2 → P 0 hi hr))))) ∧ (x1 = 0 → P 0 hi hr))))))) :
    W2i mX1_givePlan [.inr (some (17, 0)), .inr (some (30, j1)), .inl l2, .inr (some (11, 0)), .inl l4, .inl l5] hi hr P :=
  WPm.of rfl (show WP mX1_givePlan 0 [some (.inr (some (17, 0))), some (.inr (some (30, j1))), some (.inl l2), some (.inr (some (11, 0))), some (.inl l4), some (.inl l5), none, none] [] hi hr (zQ2i P) from
  WP.iload_n (pc2 := 1) (i := 2) rfl (by decide +kernel) rfl <|
  WP.if_lt (pc2 := 4) (off := 18) (tgt := 19) rfl (by decide +kernel) (by decide) (fun h51 => have f52 := F.1 h51
  WP.iconst (pc2 := 20) (x := 0) rfl (by decide +kernel) (by decide) <|
  WP.zret (by decide +kernel) rfl (by decide) (fun hx => ⟨_, rfl, hx, trivial, f52⟩)) (fun h51 => have f53 := F.2 h51
  WP.iload_n (pc2 := 5) (i := 2) rfl (by decide +kernel) rfl <|
  WP.bipush (pc2 := 7) (x := 6) rfl (by decide +kernel) ⟨by decide +kernel, by decide⟩ <|
  WP.icmp_ge (pc2 := 10) (off := 12) (tgt := 19) rfl (by decide +kernel) (by decide) (fun h48 => have f49 := f53.1 h48
  WP.iconst (pc2 := 20) (x := 0) rfl (by decide +kernel) (by decide) <|
  WP.zret (by decide +kernel) rfl (by decide) (fun hx => ⟨_, rfl, hx, trivial, f49⟩)) (fun h48 => have f50 := f53.2 h48
  WP.aload_n (pc2 := 11) (i := 3) rfl (by decide +kernel) rfl <|
  WP.iload (pc2 := 13) (i := 4) rfl (by decide +kernel) rfl <|
  WP.callV (y := mX1_givePlan) (index := 99) (pc2 := 16) (y' := mX8_has) (vs := [.inl l4]) rfl (by decide +kernel) okX8_has ⟨by decide, by decide⟩ ⟨lm_X1_99, ivX8_has⟩ zSh_11 zc_8 (Nat.le_of_ble_eq_true rfl) ⟨rfl, rfl⟩ rfl (WP.c0i f50 (fun x1 _ f47 =>
  WP.if_ne (pc2 := 19) (off := 5) (tgt := 21) rfl (by decide +kernel) (by decide) (fun h44 => have f45 := f47.1 h44
  WP.aload_n (pc2 := 22) (i := 0) rfl (by decide +kernel) rfl <|
  WP.getI (pc2 := 25) rfl (by decide +kernel) zc_1 zSh_17 (by decide) rfl lf_X1_24 rfl rfl <|
  WP.iload (pc2 := 27) (i := 4) rfl (by decide +kernel) rfl <|
  WP.icmp_ne (pc2 := 30) (off := 13) (tgt := 40) rfl (by decide +kernel) (by decide) (fun h41 => have f42 := f45.1 h41
  WP.aload_n (pc2 := 41) (i := 1) rfl (by decide +kernel) rfl <|
  WP.aload_n (pc2 := 42) (i := 3) rfl (by decide +kernel) rfl <|
  WP.getR (pc2 := 45) rfl (by decide +kernel) zc_8 zSh_11 (by decide) rfl lf_X1_103 rfl (rs_11_0 hR) <|
  WP.iload (pc2 := 47) (i := 4) rfl (by decide +kernel) rfl <|
  WP.iaload (pc2 := 48) rfl (by decide +kernel) zSh_12 rfl f42.1 rfl <|
  WP.callV (y := mX1_givePlan) (index := 107) (pc2 := 51) (y' := mX10_stationCell) (vs := [.inl (hi 12 0 l4)]) rfl (by decide +kernel) okX10_stationCell ⟨by decide, by decide⟩ ⟨lm_X1_107, ivX10_stationCell⟩ zSh_30 zc_10 (Nat.le_of_ble_eq_true rfl) ⟨rfl, rfl⟩ rfl (WP.c0i f42.2 (fun x2 _ f19 =>
  WP.istore (pc2 := 53) (i := 6) rfl (by decide +kernel) (by decide) <|
  WP.aload_n (pc2 := 54) (i := 1) rfl (by decide +kernel) rfl <|
  WP.aload_n (pc2 := 55) (i := 3) rfl (by decide +kernel) rfl <|
  WP.getR (pc2 := 58) rfl (by decide +kernel) zc_8 zSh_11 (by decide) rfl lf_X1_110 rfl (rs_11_1 hR) <|
  WP.iload (pc2 := 60) (i := 4) rfl (by decide +kernel) rfl <|
  WP.iaload (pc2 := 61) rfl (by decide +kernel) zSh_13 rfl f19.1 rfl <|
  WP.callV (y := mX1_givePlan) (index := 107) (pc2 := 64) (y' := mX10_stationCell) (vs := [.inl (hi 13 0 l4)]) rfl (by decide +kernel) okX10_stationCell ⟨by decide, by decide⟩ ⟨lm_X1_107, ivX10_stationCell⟩ zSh_30 zc_10 (Nat.le_of_ble_eq_true rfl) ⟨rfl, rfl⟩ rfl (WP.c0i f19.2 (fun x3 _ f18 =>
  WP.istore (pc2 := 66) (i := 7) rfl (by decide +kernel) (by decide) <|
  WP.aload_n (pc2 := 67) (i := 0) rfl (by decide +kernel) rfl <|
  WP.getR (pc2 := 70) rfl (by decide +kernel) zc_1 zSh_17 (by decide) rfl lf_X1_20 rfl (rs_17_1 hR) <|
  WP.aload_n (pc2 := 71) (i := 1) rfl (by decide +kernel) rfl <|
  WP.aload_n (pc2 := 72) (i := 0) rfl (by decide +kernel) rfl <|
  WP.getR (pc2 := 75) rfl (by decide +kernel) zc_1 zSh_17 (by decide) rfl lf_X1_11 rfl (rs_17_0 hR) <|
  WP.iload_n (pc2 := 76) (i := 2) rfl (by decide +kernel) rfl <|
  WP.iload (pc2 := 78) (i := 6) rfl (by decide +kernel) rfl <|
  WP.iload (pc2 := 80) (i := 7) rfl (by decide +kernel) rfl <|
  WP.iload (pc2 := 82) (i := 5) rfl (by decide +kernel) rfl <|
  WP.callV (y := mX1_givePlan) (index := 113) (pc2 := 85) (y' := mX4_findTrip) (vs := [.inr (some (30, j1)), .inr (some (18, 0)), .inl l2, .inl x2, .inl x3, .inl l5]) rfl (by decide +kernel) okX4_findTrip ⟨by decide, by decide⟩ ⟨lm_X1_113, ivX4_findTrip⟩ zSh_19 zc_4 (Nat.le_of_ble_eq_true rfl) ⟨rfl, rfl⟩ rfl (WP.c2i f18 (fun x4 hi5 hr6 _ f17 =>
  have hRxhr6 := f17.1
  WP.if_ne (pc2 := 88) (off := 14) (tgt := 99) rfl (by decide +kernel) (by decide) (fun h14 => have f15 := f17.2.1 h14
  WP.aload_n (pc2 := 100) (i := 0) rfl (by decide +kernel) rfl <|
  WP.getR (pc2 := 103) rfl (by decide +kernel) zc_1 zSh_17 (by decide) rfl lf_X1_11 rfl (rs_17_0 hRxhr6) <|
  WP.iload_n (pc2 := 104) (i := 2) rfl (by decide +kernel) rfl <|
  WP.aaload (pc2 := 105) rfl (by decide +kernel) zSh_18 (by decide) rfl f15.1 (rs_18_e hRxhr6 l2 f15.1) <|
  WP.iload (pc2 := 107) (i := 4) rfl (by decide +kernel) rfl <|
  WP.callV (y := mX1_givePlan) (index := 121) (pc2 := 110) (y' := mX0_take) (vs := [.inl l4]) rfl (by decide +kernel) okX0_take ⟨by decide, by decide⟩ ⟨lm_X1_121, ivX0_take⟩ zSh_24 zc_0 (Nat.le_of_ble_eq_true rfl) ⟨rfl, rfl⟩ rfl (WP.c1v f15.2 (fun hi8 f11 =>
  WP.aload_n (pc2 := 111) (i := 3) rfl (by decide +kernel) rfl <|
  WP.iload (pc2 := 113) (i := 4) rfl (by decide +kernel) rfl <|
  WP.iload_n (pc2 := 114) (i := 2) rfl (by decide +kernel) rfl <|
  WP.iload (pc2 := 116) (i := 5) rfl (by decide +kernel) rfl <|
  WP.callV (y := mX1_givePlan) (index := 124) (pc2 := 119) (y' := mX8_give) (vs := [.inl l4, .inl l2, .inl l5]) rfl (by decide +kernel) okX8_give ⟨by decide, by decide⟩ ⟨lm_X1_124, ivX8_give⟩ zSh_11 zc_8 (Nat.le_of_ble_eq_true rfl) ⟨rfl, rfl⟩ rfl (WP.c1v f11 (fun hi9 f10 =>
  WP.iconst (pc2 := 120) (x := 1) rfl (by decide +kernel) (by decide) <|
  WP.zret (by decide +kernel) rfl (by decide) (fun hx => ⟨_, rfl, hx, trivial, f10⟩)))))) (fun h14 => have f16 := f17.2.2 h14
  WP.aload_n (pc2 := 89) (i := 0) rfl (by decide +kernel) rfl <|
  WP.iload_n (pc2 := 90) (i := 2) rfl (by decide +kernel) rfl <|
  WP.iload (pc2 := 92) (i := 4) rfl (by decide +kernel) rfl <|
  WP.iload (pc2 := 94) (i := 5) rfl (by decide +kernel) rfl <|
  WP.callV (y := mX1_givePlan) (index := 117) (pc2 := 97) (y' := mX1_noteHopeless) (vs := [.inl l2, .inl l4, .inl l5]) rfl (by decide +kernel) okX1_noteHopeless ⟨by decide, by decide⟩ ⟨lm_X1_117, ivX1_noteHopeless⟩ zSh_17 zc_1 (Nat.le_of_ble_eq_true rfl) ⟨rfl, rfl⟩ rfl (WP.c1v f16 (fun hi12 f13 =>
  WP.iconst (pc2 := 98) (x := 0) rfl (by decide +kernel) (by decide) <|
  WP.zret (by decide +kernel) rfl (by decide) (fun hx => ⟨_, rfl, hx, trivial, f13⟩))))))))))) (fun h41 => have f43 := f45.2 h41
  WP.aload_n (pc2 := 31) (i := 0) rfl (by decide +kernel) rfl <|
  WP.getI (pc2 := 34) rfl (by decide +kernel) zc_1 zSh_17 (by decide) rfl lf_X1_28 rfl rfl <|
  WP.iload_n (pc2 := 35) (i := 2) rfl (by decide +kernel) rfl <|
  WP.icmp_ne (pc2 := 38) (off := 5) (tgt := 40) rfl (by decide +kernel) (by decide) (fun h38 => have f39 := f43.1 h38
  WP.aload_n (pc2 := 41) (i := 1) rfl (by decide +kernel) rfl <|
  WP.aload_n (pc2 := 42) (i := 3) rfl (by decide +kernel) rfl <|
  WP.getR (pc2 := 45) rfl (by decide +kernel) zc_8 zSh_11 (by decide) rfl lf_X1_103 rfl (rs_11_0 hR) <|
  WP.iload (pc2 := 47) (i := 4) rfl (by decide +kernel) rfl <|
  WP.iaload (pc2 := 48) rfl (by decide +kernel) zSh_12 rfl f39.1 rfl <|
  WP.callV (y := mX1_givePlan) (index := 107) (pc2 := 51) (y' := mX10_stationCell) (vs := [.inl (hi 12 0 l4)]) rfl (by decide +kernel) okX10_stationCell ⟨by decide, by decide⟩ ⟨lm_X1_107, ivX10_stationCell⟩ zSh_30 zc_10 (Nat.le_of_ble_eq_true rfl) ⟨rfl, rfl⟩ rfl (WP.c0i f39.2 (fun x20 _ f37 =>
  WP.istore (pc2 := 53) (i := 6) rfl (by decide +kernel) (by decide) <|
  WP.aload_n (pc2 := 54) (i := 1) rfl (by decide +kernel) rfl <|
  WP.aload_n (pc2 := 55) (i := 3) rfl (by decide +kernel) rfl <|
  WP.getR (pc2 := 58) rfl (by decide +kernel) zc_8 zSh_11 (by decide) rfl lf_X1_110 rfl (rs_11_1 hR) <|
  WP.iload (pc2 := 60) (i := 4) rfl (by decide +kernel) rfl <|
  WP.iaload (pc2 := 61) rfl (by decide +kernel) zSh_13 rfl f37.1 rfl <|
  WP.callV (y := mX1_givePlan) (index := 107) (pc2 := 64) (y' := mX10_stationCell) (vs := [.inl (hi 13 0 l4)]) rfl (by decide +kernel) okX10_stationCell ⟨by decide, by decide⟩ ⟨lm_X1_107, ivX10_stationCell⟩ zSh_30 zc_10 (Nat.le_of_ble_eq_true rfl) ⟨rfl, rfl⟩ rfl (WP.c0i f37.2 (fun x21 _ f36 =>
  WP.istore (pc2 := 66) (i := 7) rfl (by decide +kernel) (by decide) <|
  WP.aload_n (pc2 := 67) (i := 0) rfl (by decide +kernel) rfl <|
  WP.getR (pc2 := 70) rfl (by decide +kernel) zc_1 zSh_17 (by decide) rfl lf_X1_20 rfl (rs_17_1 hR) <|
  WP.aload_n (pc2 := 71) (i := 1) rfl (by decide +kernel) rfl <|
  WP.aload_n (pc2 := 72) (i := 0) rfl (by decide +kernel) rfl <|
  WP.getR (pc2 := 75) rfl (by decide +kernel) zc_1 zSh_17 (by decide) rfl lf_X1_11 rfl (rs_17_0 hR) <|
  WP.iload_n (pc2 := 76) (i := 2) rfl (by decide +kernel) rfl <|
  WP.iload (pc2 := 78) (i := 6) rfl (by decide +kernel) rfl <|
  WP.iload (pc2 := 80) (i := 7) rfl (by decide +kernel) rfl <|
  WP.iload (pc2 := 82) (i := 5) rfl (by decide +kernel) rfl <|
  WP.callV (y := mX1_givePlan) (index := 113) (pc2 := 85) (y' := mX4_findTrip) (vs := [.inr (some (30, j1)), .inr (some (18, 0)), .inl l2, .inl x20, .inl x21, .inl l5]) rfl (by decide +kernel) okX4_findTrip ⟨by decide, by decide⟩ ⟨lm_X1_113, ivX4_findTrip⟩ zSh_19 zc_4 (Nat.le_of_ble_eq_true rfl) ⟨rfl, rfl⟩ rfl (WP.c2i f36 (fun x22 hi23 hr24 _ f35 =>
  have hRxhr24 := f35.1
  WP.if_ne (pc2 := 88) (off := 14) (tgt := 99) rfl (by decide +kernel) (by decide) (fun h32 => have f33 := f35.2.1 h32
  WP.aload_n (pc2 := 100) (i := 0) rfl (by decide +kernel) rfl <|
  WP.getR (pc2 := 103) rfl (by decide +kernel) zc_1 zSh_17 (by decide) rfl lf_X1_11 rfl (rs_17_0 hRxhr24) <|
  WP.iload_n (pc2 := 104) (i := 2) rfl (by decide +kernel) rfl <|
  WP.aaload (pc2 := 105) rfl (by decide +kernel) zSh_18 (by decide) rfl f33.1 (rs_18_e hRxhr24 l2 f33.1) <|
  WP.iload (pc2 := 107) (i := 4) rfl (by decide +kernel) rfl <|
  WP.callV (y := mX1_givePlan) (index := 121) (pc2 := 110) (y' := mX0_take) (vs := [.inl l4]) rfl (by decide +kernel) okX0_take ⟨by decide, by decide⟩ ⟨lm_X1_121, ivX0_take⟩ zSh_24 zc_0 (Nat.le_of_ble_eq_true rfl) ⟨rfl, rfl⟩ rfl (WP.c1v f33.2 (fun hi26 f29 =>
  WP.aload_n (pc2 := 111) (i := 3) rfl (by decide +kernel) rfl <|
  WP.iload (pc2 := 113) (i := 4) rfl (by decide +kernel) rfl <|
  WP.iload_n (pc2 := 114) (i := 2) rfl (by decide +kernel) rfl <|
  WP.iload (pc2 := 116) (i := 5) rfl (by decide +kernel) rfl <|
  WP.callV (y := mX1_givePlan) (index := 124) (pc2 := 119) (y' := mX8_give) (vs := [.inl l4, .inl l2, .inl l5]) rfl (by decide +kernel) okX8_give ⟨by decide, by decide⟩ ⟨lm_X1_124, ivX8_give⟩ zSh_11 zc_8 (Nat.le_of_ble_eq_true rfl) ⟨rfl, rfl⟩ rfl (WP.c1v f29 (fun hi27 f28 =>
  WP.iconst (pc2 := 120) (x := 1) rfl (by decide +kernel) (by decide) <|
  WP.zret (by decide +kernel) rfl (by decide) (fun hx => ⟨_, rfl, hx, trivial, f28⟩)))))) (fun h32 => have f34 := f35.2.2 h32
  WP.aload_n (pc2 := 89) (i := 0) rfl (by decide +kernel) rfl <|
  WP.iload_n (pc2 := 90) (i := 2) rfl (by decide +kernel) rfl <|
  WP.iload (pc2 := 92) (i := 4) rfl (by decide +kernel) rfl <|
  WP.iload (pc2 := 94) (i := 5) rfl (by decide +kernel) rfl <|
  WP.callV (y := mX1_givePlan) (index := 117) (pc2 := 97) (y' := mX1_noteHopeless) (vs := [.inl l2, .inl l4, .inl l5]) rfl (by decide +kernel) okX1_noteHopeless ⟨by decide, by decide⟩ ⟨lm_X1_117, ivX1_noteHopeless⟩ zSh_17 zc_1 (Nat.le_of_ble_eq_true rfl) ⟨rfl, rfl⟩ rfl (WP.c1v f34 (fun hi30 f31 =>
  WP.iconst (pc2 := 98) (x := 0) rfl (by decide +kernel) (by decide) <|
  WP.zret (by decide +kernel) rfl (by decide) (fun hx => ⟨_, rfl, hx, trivial, f31⟩))))))))))) (fun h38 => have f40 := f43.2 h38
  WP.iconst (pc2 := 39) (x := 0) rfl (by decide +kernel) (by decide) <|
  WP.zret (by decide +kernel) rfl (by decide) (fun hx => ⟨_, rfl, hx, trivial, f40⟩)))) (fun h44 => have f46 := f47.2 h44
  WP.iconst (pc2 := 20) (x := 0) rfl (by decide +kernel) (by decide) <|
  WP.zret (by decide +kernel) rfl (by decide) (fun hx => ⟨_, rfl, hx, trivial, f46⟩)))))))
set_option maxRecDepth 100000 in
set_option maxHeartbeats 4000000 in
theorem GX1_noteHopeless {hi : zI} {hr : zR} {P : zI → Prop} (l1 : Int) (l2 : Int) (l3 : Int) 
    (F : WP mX1_noteHopeless 3 [some (.inr (some (17, 0))), some (.inl l1), some (.inl l2), some (.inl l3), some (.inl 0)] [] hi hr (zQ1v hr P)) :
    W1v mX1_noteHopeless [.inr (some (17, 0)), .inl l1, .inl l2, .inl l3] hi hr P :=
  WPm.of rfl (show WP mX1_noteHopeless 0 [some (.inr (some (17, 0))), some (.inl l1), some (.inl l2), some (.inl l3), none] [] hi hr (zQ1v hr P) from
  WP.iconst (pc2 := 1) (x := 0) rfl (by decide +kernel) (by decide) <|
  WP.istore (pc2 := 3) (i := 4) rfl (by decide +kernel) (by decide) <|
  F)

set_option maxRecDepth 100000 in
set_option maxHeartbeats 4000000 in
theorem GX1_noteHopeless_3 {hi : zI} {hr : zR} {P : zI → Prop} (hR : RSc hr) (l1 : Int) (l2 : Int) (l3 : Int) (a4 : Int) 
    (F : (hi 17 0 2 ≤ a4 → (P (zup (zup hi 17 0 3 l2) 17 0 4 l1))) ∧ (a4 < hi 17 0 2 → ((0 ≤ a4 ∧ a4 < 6) ∧ (W0i mX6_lastMoment [.inr (some (25, a4))] hi hr (fun (x2 : Int) => (x2 ≤ l3 → ((zInR (a4 + 1)) ∧ (WP mX1_noteHopeless 3 [some (.inr (some (17, 0))), some (.inl l1), some (.inl l2), some (.inl l3), some (.inl (a4 + 1))] [] hi hr (zQ1v hr P)))) ∧ (l3 < x2 → P hi)))))) :
    WP mX1_noteHopeless 3 [some (.inr (some (17, 0))), some (.inl l1), some (.inl l2), some (.inl l3), some (.inl a4)] [] hi hr (zQ1v hr P) :=
  WP.iload (pc2 := 5) (i := 4) rfl (by decide +kernel) rfl <|
  WP.aload_n (pc2 := 6) (i := 0) rfl (by decide +kernel) rfl <|
  WP.getI (pc2 := 9) rfl (by decide +kernel) zc_1 zSh_17 (by decide) rfl lf_X1_43 rfl rfl <|
  WP.icmp_ge (pc2 := 12) (off := 27) (tgt := 36) rfl (by decide +kernel) (by decide) (fun h7 => have f8 := F.1 h7
  WP.aload_n (pc2 := 37) (i := 0) rfl (by decide +kernel) rfl <|
  WP.iload_n (pc2 := 38) (i := 2) rfl (by decide +kernel) rfl <|
  WP.putI (pc2 := 41) rfl (by decide +kernel) zc_1 zSh_17 (by decide) rfl lf_X1_24 rfl (z_int _) rfl <|
  WP.aload_n (pc2 := 42) (i := 0) rfl (by decide +kernel) rfl <|
  WP.iload_n (pc2 := 43) (i := 1) rfl (by decide +kernel) rfl <|
  WP.putI (pc2 := 46) rfl (by decide +kernel) zc_1 zSh_17 (by decide) rfl lf_X1_28 rfl (z_int _) rfl <|
  WP.vret (by decide +kernel) rfl ⟨rfl, rfl, f8⟩) (fun h7 => have f9 := F.2 h7
  WP.aload_n (pc2 := 13) (i := 0) rfl (by decide +kernel) rfl <|
  WP.getR (pc2 := 16) rfl (by decide +kernel) zc_1 zSh_17 (by decide) rfl lf_X1_11 rfl (rs_17_0 hR) <|
  WP.iload (pc2 := 18) (i := 4) rfl (by decide +kernel) rfl <|
  WP.aaload (pc2 := 19) rfl (by decide +kernel) zSh_18 (by decide) rfl f9.1 (rs_18_e hR a4 f9.1) <|
  WP.getR (pc2 := 22) rfl (by decide +kernel) zc_0 zSh_24 (by decide) rfl lf_X1_60 rfl (rs_24_0 hR a4 (f9.1)) <|
  WP.callV (y := mX1_noteHopeless) (index := 127) (pc2 := 25) (y' := mX6_lastMoment) (vs := []) rfl (by decide +kernel) okX6_lastMoment ⟨by decide, by decide⟩ ⟨lm_X1_127, ivX6_lastMoment⟩ zSh_25 zc_6 (Nat.le_of_ble_eq_true rfl) ⟨rfl, rfl⟩ rfl (WP.c0i f9.2 (fun x2 _ f6 =>
  WP.iload_n (pc2 := 26) (i := 3) rfl (by decide +kernel) rfl <|
  WP.icmp_le (pc2 := 29) (off := 4) (tgt := 30) rfl (by decide +kernel) (by decide) (fun h3 => have f4 := f6.1 h3
  WP.iinc (pc2 := 33) (i := 4) (d := 1) rfl (by decide +kernel) rfl f4.1 <|
  WP.goto (off := -30) (tgt := 3) (by decide +kernel) (by decide) <|
  f4.2) (fun h3 => have f5 := f6.2 h3
  WP.vret (by decide +kernel) rfl ⟨rfl, rfl, f5⟩))))
set_option maxRecDepth 100000 in
set_option maxHeartbeats 4000000 in
theorem GX1_sendGrants {hi : zI} {hr : zR} {P : zI → Prop} (l2 : Int) 
    (F : WP mX1_sendGrants 2 [some (.inr (some (17, 0))), some (.inr (some (7, 0))), some (.inl l2), some (.inl 0), none, none] [] hi hr (zQ1v hr P)) :
    W1v mX1_sendGrants [.inr (some (17, 0)), .inr (some (7, 0)), .inl l2] hi hr P :=
  WPm.of rfl (show WP mX1_sendGrants 0 [some (.inr (some (17, 0))), some (.inr (some (7, 0))), some (.inl l2), none, none, none] [] hi hr (zQ1v hr P) from
  WP.iconst (pc2 := 1) (x := 0) rfl (by decide +kernel) (by decide) <|
  WP.istore_n (pc2 := 2) (i := 3) rfl (by decide +kernel) (by decide) <|
  F)

set_option maxRecDepth 100000 in
set_option maxHeartbeats 4000000 in
theorem GX1_sendGrants_2 {hi : zI} {hr : zR} {P : zI → Prop} (hR : RSc hr) (l2 : Int) (a3 : Int) (u4 : Option zV) (u5 : Option zV) 
    (F : (hi 17 0 2 ≤ a3 → P hi) ∧ (a3 < hi 17 0 2 → ((0 ≤ a3 ∧ a3 < 6) ∧ (W0i mX0_actsKnown [.inr (some (24, a3))] hi hr (fun (x23 : Int) => (zInR (x23 + 1)) ∧ (W0i mX6_hasAct [.inr (some (25, a3)), .inl (x23 + 1)] hi hr (fun (x24 : Int) => (x24 = 0 → ((zInR (a3 + 1)) ∧ (WP mX1_sendGrants 2 [some (.inr (some (17, 0))), some (.inr (some (7, 0))), some (.inl l2), some (.inl (a3 + 1)), some (.inr (some (24, a3))), some (.inl (x23 + 1))] [] hi hr (zQ1v hr P)))) ∧ (x24 ≠ 0 → (W0i mX1_isGrantDue [.inr (some (17, 0)), .inl a3, .inl (x23 + 1), .inl l2] hi hr (fun (x25 : Int) => (x25 = 0 → ((zInR (a3 + 1)) ∧ (WP mX1_sendGrants 2 [some (.inr (some (17, 0))), some (.inr (some (7, 0))), some (.inl l2), some (.inl (a3 + 1)), some (.inr (some (24, a3))), some (.inl (x23 + 1))] [] hi hr (zQ1v hr P)))) ∧ (x25 ≠ 0 → (W0i mX6_cellOfAct [.inr (some (25, a3)), .inl (x23 + 1)] (zup (zup hi 24 a3 5 (x23 + 1)) 24 a3 6 l2) hr (fun (x26 : Int) => W1v mX5_send [.inr (some (7, 0)), .inl l2, .inl 1, .inl a3, .inl (hi 24 a3 1), .inl (x23 + 1), .inl x26] (zup (zup hi 24 a3 5 (x23 + 1)) 24 a3 6 l2) hr (fun (hi27 : zI) => (zInR (a3 + 1)) ∧ (WP mX1_sendGrants 2 [some (.inr (some (17, 0))), some (.inr (some (7, 0))), some (.inl l2), some (.inl (a3 + 1)), some (.inr (some (24, a3))), some (.inl (x23 + 1))] [] hi27 hr (zQ1v hr P)))))))))))))))) :
    WP mX1_sendGrants 2 [some (.inr (some (17, 0))), some (.inr (some (7, 0))), some (.inl l2), some (.inl a3), u4, u5] [] hi hr (zQ1v hr P) :=
  WP.iload_n (pc2 := 3) (i := 3) rfl (by decide +kernel) rfl <|
  WP.aload_n (pc2 := 4) (i := 0) rfl (by decide +kernel) rfl <|
  WP.getI (pc2 := 7) rfl (by decide +kernel) zc_1 zSh_17 (by decide) rfl lf_X1_43 rfl rfl <|
  WP.icmp_ge (pc2 := 10) (off := 87) (tgt := 94) rfl (by decide +kernel) (by decide) (fun h39 => have f40 := F.1 h39
  WP.vret (by decide +kernel) rfl ⟨rfl, rfl, f40⟩) (fun h39 => have f41 := F.2 h39
  WP.aload_n (pc2 := 11) (i := 0) rfl (by decide +kernel) rfl <|
  WP.getR (pc2 := 14) rfl (by decide +kernel) zc_1 zSh_17 (by decide) rfl lf_X1_11 rfl (rs_17_0 hR) <|
  WP.iload_n (pc2 := 15) (i := 3) rfl (by decide +kernel) rfl <|
  WP.aaload (pc2 := 16) rfl (by decide +kernel) zSh_18 (by decide) rfl f41.1 (rs_18_e hR a3 f41.1) <|
  WP.astore (pc2 := 18) (i := 4) rfl (by decide +kernel) (by decide) <|
  WP.aload (pc2 := 20) (i := 4) rfl (by decide +kernel) rfl <|
  WP.callV (y := mX1_sendGrants) (index := 130) (pc2 := 23) (y' := mX0_actsKnown) (vs := []) rfl (by decide +kernel) okX0_actsKnown ⟨by decide, by decide⟩ ⟨lm_X1_130, ivX0_actsKnown⟩ zSh_24 zc_0 (Nat.le_of_ble_eq_true rfl) ⟨rfl, rfl⟩ rfl (WP.c0i f41.2 (fun x23 _ f38 =>
  WP.iconst (pc2 := 24) (x := 1) rfl (by decide +kernel) (by decide) <|
  WP.iadd (pc2 := 25) rfl (by decide +kernel) f38.1 <|
  WP.istore (pc2 := 27) (i := 5) rfl (by decide +kernel) (by decide) <|
  WP.aload (pc2 := 29) (i := 4) rfl (by decide +kernel) rfl <|
  WP.getR (pc2 := 32) rfl (by decide +kernel) zc_0 zSh_24 (by decide) rfl lf_X1_60 rfl (rs_24_0 hR a3 (f41.1)) <|
  WP.iload (pc2 := 34) (i := 5) rfl (by decide +kernel) rfl <|
  WP.callV (y := mX1_sendGrants) (index := 133) (pc2 := 37) (y' := mX6_hasAct) (vs := [.inl (x23 + 1)]) rfl (by decide +kernel) okX6_hasAct ⟨by decide, by decide⟩ ⟨lm_X1_133, ivX6_hasAct⟩ zSh_25 zc_6 (Nat.le_of_ble_eq_true rfl) ⟨rfl, rfl⟩ rfl (WP.c0i f38.2 (fun x24 _ f37 =>
  WP.if_eq (pc2 := 40) (off := 51) (tgt := 88) rfl (by decide +kernel) (by decide) (fun h34 => have f35 := f37.1 h34
  WP.iinc (pc2 := 91) (i := 3) (d := 1) rfl (by decide +kernel) rfl f35.1 <|
  WP.goto (off := -89) (tgt := 2) (by decide +kernel) (by decide) <|
  f35.2) (fun h34 => have f36 := f37.2 h34
  WP.aload_n (pc2 := 41) (i := 0) rfl (by decide +kernel) rfl <|
  WP.iload_n (pc2 := 42) (i := 3) rfl (by decide +kernel) rfl <|
  WP.iload (pc2 := 44) (i := 5) rfl (by decide +kernel) rfl <|
  WP.iload_n (pc2 := 45) (i := 2) rfl (by decide +kernel) rfl <|
  WP.callV (y := mX1_sendGrants) (index := 136) (pc2 := 48) (y' := mX1_isGrantDue) (vs := [.inl a3, .inl (x23 + 1), .inl l2]) rfl (by decide +kernel) okX1_isGrantDue ⟨by decide, by decide⟩ ⟨lm_X1_136, ivX1_isGrantDue⟩ zSh_17 zc_1 (Nat.le_of_ble_eq_true rfl) ⟨rfl, rfl⟩ rfl (WP.c0i f36 (fun x25 _ f33 =>
  WP.if_eq (pc2 := 51) (off := 40) (tgt := 88) rfl (by decide +kernel) (by decide) (fun h30 => have f31 := f33.1 h30
  WP.iinc (pc2 := 91) (i := 3) (d := 1) rfl (by decide +kernel) rfl f31.1 <|
  WP.goto (off := -89) (tgt := 2) (by decide +kernel) (by decide) <|
  f31.2) (fun h30 => have f32 := f33.2 h30
  WP.aload (pc2 := 53) (i := 4) rfl (by decide +kernel) rfl <|
  WP.iload (pc2 := 55) (i := 5) rfl (by decide +kernel) rfl <|
  WP.putI (pc2 := 58) rfl (by decide +kernel) zc_0 zSh_24 (by decide) rfl lf_X1_140 rfl (z_int _) rfl <|
  WP.aload (pc2 := 60) (i := 4) rfl (by decide +kernel) rfl <|
  WP.iload_n (pc2 := 61) (i := 2) rfl (by decide +kernel) rfl <|
  WP.putI (pc2 := 64) rfl (by decide +kernel) zc_0 zSh_24 (by decide) rfl lf_X1_143 rfl (z_int _) rfl <|
  WP.aload_n (pc2 := 65) (i := 1) rfl (by decide +kernel) rfl <|
  WP.iload_n (pc2 := 66) (i := 2) rfl (by decide +kernel) rfl <|
  WP.iconst (pc2 := 67) (x := 1) rfl (by decide +kernel) (by decide) <|
  WP.iload_n (pc2 := 68) (i := 3) rfl (by decide +kernel) rfl <|
  WP.aload (pc2 := 70) (i := 4) rfl (by decide +kernel) rfl <|
  WP.getI (pc2 := 73) rfl (by decide +kernel) zc_0 zSh_24 (by decide) rfl lf_X1_146 rfl ((zup_f _ _ _ _ _ _ (by decide)).trans (zup_f _ _ _ _ _ _ (by decide))) <|
  WP.iload (pc2 := 75) (i := 5) rfl (by decide +kernel) rfl <|
  WP.aload (pc2 := 77) (i := 4) rfl (by decide +kernel) rfl <|
  WP.getR (pc2 := 80) rfl (by decide +kernel) zc_0 zSh_24 (by decide) rfl lf_X1_60 rfl (rs_24_0 hR a3 (f41.1)) <|
  WP.iload (pc2 := 82) (i := 5) rfl (by decide +kernel) rfl <|
  WP.callV (y := mX1_sendGrants) (index := 149) (pc2 := 85) (y' := mX6_cellOfAct) (vs := [.inl (x23 + 1)]) rfl (by decide +kernel) okX6_cellOfAct ⟨by decide, by decide⟩ ⟨lm_X1_149, ivX6_cellOfAct⟩ zSh_25 zc_6 (Nat.le_of_ble_eq_true rfl) ⟨rfl, rfl⟩ rfl (WP.c0i f32 (fun x26 _ f29 =>
  WP.callV (y := mX1_sendGrants) (index := 152) (pc2 := 88) (y' := mX5_send) (vs := [.inl l2, .inl 1, .inl a3, .inl (hi 24 a3 1), .inl (x23 + 1), .inl x26]) rfl (by decide +kernel) okX5_send ⟨by decide, by decide⟩ ⟨lm_X1_152, ivX5_send⟩ zSh_7 zc_5 (Nat.le_of_ble_eq_true rfl) ⟨rfl, rfl⟩ rfl (WP.c1v f29 (fun hi27 f28 =>
  WP.iinc (pc2 := 91) (i := 3) (d := 1) rfl (by decide +kernel) rfl f28.1 <|
  WP.goto (off := -89) (tgt := 2) (by decide +kernel) (by decide) <|
  f28.2)))))))))))))
set_option maxRecDepth 100000 in
set_option maxHeartbeats 4000000 in
theorem GX1_isGrantDue {hi : zI} {hr : zR} {P : Int → Prop} (hR : RSc hr) (l1 : Int) (l2 : Int) (l3 : Int) 
    (F : W0r mX1_accountAt [.inr (some (17, 0)), .inl l1] hi hr (fun (o1 : Option (Nat × Int)) => (o1 = none → P 0) ∧ (∀ w, o1 = some w → ∃ q2 : Int, w = (24, q2) ∧ ((hi 24 q2 5 < l2 → ((0 ≤ q2 ∧ q2 < 6) ∧ (W0i mX6_momentOfAct [.inr (some (25, q2)), .inl l2] hi hr (fun (x3 : Int) => (zInR (l3 + 1)) ∧ ((x3 ≤ l3 + 1 → ((0 ≤ q2 ∧ q2 < 6) ∧ (W0i mX6_cellOfAct [.inr (some (25, q2)), .inl l2] hi hr (fun (x4 : Int) => (x4 = -1 → P 1) ∧ (x4 ≠ -1 → (W0i mX1_firstWaitingAt [.inr (some (17, 0)), .inl x4] hi hr (fun (x5 : Int) => (x5 ≠ l1 → P 0) ∧ (x5 = l1 → (W0i mX0_nextActTo [.inr (some (24, q2)), .inl x4] hi hr (fun (x6 : Int) => (x6 ≠ l2 → P 0) ∧ (x6 = l2 → P 1))))))))))) ∧ (l3 + 1 < x3 → P 0)))))) ∧ (l2 ≤ hi 24 q2 5 → ((zInR (l3 - (hi 24 q2 6))) ∧ ((l3 - (hi 24 q2 6) < 4 → P 0) ∧ (4 ≤ l3 - (hi 24 q2 6) → P 1)))))))) :
    W0i mX1_isGrantDue [.inr (some (17, 0)), .inl l1, .inl l2, .inl l3] hi hr P :=
  WPm.of rfl (show WP mX1_isGrantDue 0 [some (.inr (some (17, 0))), some (.inl l1), some (.inl l2), some (.inl l3), none, none] [] hi hr (zQ0i hi hr P) from
  WP.aload_n (pc2 := 1) (i := 0) rfl (by decide +kernel) rfl <|
  WP.iload_n (pc2 := 2) (i := 1) rfl (by decide +kernel) rfl <|
  WP.callV (y := mX1_isGrantDue) (index := 158) (pc2 := 5) (y' := mX1_accountAt) (vs := [.inl l1]) rfl (by decide +kernel) okX1_accountAt ⟨by decide, by decide⟩ ⟨lm_X1_158, ivX1_accountAt⟩ zSh_17 zc_1 (Nat.le_of_ble_eq_true rfl) ⟨rfl, rfl⟩ rfl (WP.c0r F (fun o1 f33 =>
  WP.astore (pc2 := 7) (i := 4) rfl (by decide +kernel) (by decide) <|
  WP.aload (pc2 := 9) (i := 4) rfl (by decide +kernel) rfl <|
  WP.ifnonnull (pc2 := 12) (off := 5) (tgt := 14) rfl (by decide +kernel) (by decide) (fun w31 e32 => Exists.elim (f33.2 w31 e32) (fun q2 f30x => by
  obtain ⟨rfl, f30⟩ := f30x
  subst e32
  exact WP.aload (pc2 := 16) (i := 4) rfl (by decide +kernel) rfl <|
  WP.getI (pc2 := 19) rfl (by decide +kernel) zc_0 zSh_24 (by decide) rfl lf_X1_140 rfl rfl <|
  WP.iload_n (pc2 := 20) (i := 2) rfl (by decide +kernel) rfl <|
  WP.icmp_lt (pc2 := 23) (off := 20) (tgt := 40) rfl (by decide +kernel) (by decide) (fun h26 => have f27 := f30.1 h26
  WP.aload (pc2 := 42) (i := 4) rfl (by decide +kernel) rfl <|
  WP.getR (pc2 := 45) rfl (by decide +kernel) zc_0 zSh_24 (by decide) rfl lf_X1_60 rfl (rs_24_0 hR q2 f27.1) <|
  WP.iload_n (pc2 := 46) (i := 2) rfl (by decide +kernel) rfl <|
  WP.callV (y := mX1_isGrantDue) (index := 64) (pc2 := 49) (y' := mX6_momentOfAct) (vs := [.inl l2]) rfl (by decide +kernel) okX6_momentOfAct ⟨by decide, by decide⟩ ⟨lm_X1_64, ivX6_momentOfAct⟩ zSh_25 zc_6 (Nat.le_of_ble_eq_true rfl) ⟨rfl, rfl⟩ rfl (WP.c0i f27.2 (fun x3 _ f22 =>
  WP.iload_n (pc2 := 50) (i := 3) rfl (by decide +kernel) rfl <|
  WP.iconst (pc2 := 51) (x := 1) rfl (by decide +kernel) (by decide) <|
  WP.iadd (pc2 := 52) rfl (by decide +kernel) f22.1 <|
  WP.icmp_le (pc2 := 55) (off := 5) (tgt := 57) rfl (by decide +kernel) (by decide) (fun h19 => have f20 := f22.2.1 h19
  WP.aload (pc2 := 59) (i := 4) rfl (by decide +kernel) rfl <|
  WP.getR (pc2 := 62) rfl (by decide +kernel) zc_0 zSh_24 (by decide) rfl lf_X1_60 rfl (rs_24_0 hR q2 f20.1) <|
  WP.iload_n (pc2 := 63) (i := 2) rfl (by decide +kernel) rfl <|
  WP.callV (y := mX1_isGrantDue) (index := 149) (pc2 := 66) (y' := mX6_cellOfAct) (vs := [.inl l2]) rfl (by decide +kernel) okX6_cellOfAct ⟨by decide, by decide⟩ ⟨lm_X1_149, ivX6_cellOfAct⟩ zSh_25 zc_6 (Nat.le_of_ble_eq_true rfl) ⟨rfl, rfl⟩ rfl (WP.c0i f20.2 (fun x4 _ f18 =>
  WP.istore (pc2 := 68) (i := 5) rfl (by decide +kernel) (by decide) <|
  WP.iload (pc2 := 70) (i := 5) rfl (by decide +kernel) rfl <|
  WP.iconst (pc2 := 71) (x := -1) rfl (by decide +kernel) (by decide) <|
  WP.icmp_eq (pc2 := 74) (off := 24) (tgt := 95) rfl (by decide +kernel) (by decide) (fun h15 => have f16 := f18.1 h15
  WP.iconst (pc2 := 96) (x := 1) rfl (by decide +kernel) (by decide) <|
  WP.goto (off := 4) (tgt := 100) (by decide +kernel) (by decide) <|
  WP.zret (by decide +kernel) rfl (by decide) (fun hx => ⟨_, rfl, hx, rfl, rfl, f16⟩)) (fun h15 => have f17 := f18.2 h15
  WP.aload_n (pc2 := 75) (i := 0) rfl (by decide +kernel) rfl <|
  WP.iload (pc2 := 77) (i := 5) rfl (by decide +kernel) rfl <|
  WP.callV (y := mX1_isGrantDue) (index := 162) (pc2 := 80) (y' := mX1_firstWaitingAt) (vs := [.inl x4]) rfl (by decide +kernel) okX1_firstWaitingAt ⟨by decide, by decide⟩ ⟨lm_X1_162, ivX1_firstWaitingAt⟩ zSh_17 zc_1 (Nat.le_of_ble_eq_true rfl) ⟨rfl, rfl⟩ rfl (WP.c0i f17 (fun x5 _ f14 =>
  WP.iload_n (pc2 := 81) (i := 1) rfl (by decide +kernel) rfl <|
  WP.icmp_ne (pc2 := 84) (off := 18) (tgt := 99) rfl (by decide +kernel) (by decide) (fun h11 => have f12 := f14.1 h11
  WP.iconst (pc2 := 100) (x := 0) rfl (by decide +kernel) (by decide) <|
  WP.zret (by decide +kernel) rfl (by decide) (fun hx => ⟨_, rfl, hx, rfl, rfl, f12⟩)) (fun h11 => have f13 := f14.2 h11
  WP.aload (pc2 := 86) (i := 4) rfl (by decide +kernel) rfl <|
  WP.iload (pc2 := 88) (i := 5) rfl (by decide +kernel) rfl <|
  WP.callV (y := mX1_isGrantDue) (index := 57) (pc2 := 91) (y' := mX0_nextActTo) (vs := [.inl x4]) rfl (by decide +kernel) okX0_nextActTo ⟨by decide, by decide⟩ ⟨lm_X1_57, ivX0_nextActTo⟩ zSh_24 zc_0 (Nat.le_of_ble_eq_true rfl) ⟨rfl, rfl⟩ rfl (WP.c0i f13 (fun x6 _ f10 =>
  WP.iload_n (pc2 := 92) (i := 2) rfl (by decide +kernel) rfl <|
  WP.icmp_ne (pc2 := 95) (off := 7) (tgt := 99) rfl (by decide +kernel) (by decide) (fun h7 => have f8 := f10.1 h7
  WP.iconst (pc2 := 100) (x := 0) rfl (by decide +kernel) (by decide) <|
  WP.zret (by decide +kernel) rfl (by decide) (fun hx => ⟨_, rfl, hx, rfl, rfl, f8⟩)) (fun h7 => have f9 := f10.2 h7
  WP.iconst (pc2 := 96) (x := 1) rfl (by decide +kernel) (by decide) <|
  WP.goto (off := 4) (tgt := 100) (by decide +kernel) (by decide) <|
  WP.zret (by decide +kernel) rfl (by decide) (fun hx => ⟨_, rfl, hx, rfl, rfl, f9⟩))))))))))) (fun h19 => have f21 := f22.2.2 h19
  WP.iconst (pc2 := 56) (x := 0) rfl (by decide +kernel) (by decide) <|
  WP.zret (by decide +kernel) rfl (by decide) (fun hx => ⟨_, rfl, hx, rfl, rfl, f21⟩))))) (fun h26 => have f28 := f30.2 h26
  WP.iload_n (pc2 := 24) (i := 3) rfl (by decide +kernel) rfl <|
  WP.aload (pc2 := 26) (i := 4) rfl (by decide +kernel) rfl <|
  WP.getI (pc2 := 29) rfl (by decide +kernel) zc_0 zSh_24 (by decide) rfl lf_X1_143 rfl rfl <|
  WP.isub (pc2 := 30) rfl (by decide +kernel) f28.1 <|
  WP.iconst (pc2 := 31) (x := 4) rfl (by decide +kernel) (by decide) <|
  WP.icmp_lt (pc2 := 34) (off := 7) (tgt := 38) rfl (by decide +kernel) (by decide) (fun h23 => have f24 := f28.2.1 h23
  WP.iconst (pc2 := 39) (x := 0) rfl (by decide +kernel) (by decide) <|
  WP.zret (by decide +kernel) rfl (by decide) (fun hx => ⟨_, rfl, hx, rfl, rfl, f24⟩)) (fun h23 => have f25 := f28.2.2 h23
  WP.iconst (pc2 := 35) (x := 1) rfl (by decide +kernel) (by decide) <|
  WP.goto (off := 4) (tgt := 39) (by decide +kernel) (by decide) <|
  WP.zret (by decide +kernel) rfl (by decide) (fun hx => ⟨_, rfl, hx, rfl, rfl, f25⟩))))) (fun e32 => have f29 := f33.1 e32
  by subst e32; exact WP.iconst (pc2 := 13) (x := 0) rfl (by decide +kernel) (by decide) <|
  WP.zret (by decide +kernel) rfl (by decide) (fun hx => ⟨_, rfl, hx, rfl, rfl, f29⟩)))))
