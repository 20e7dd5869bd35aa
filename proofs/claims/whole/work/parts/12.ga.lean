set_option maxRecDepth 100000 in
set_option maxHeartbeats 4000000 in
theorem GX6_begin {hi : zI} {hr : zR} {P : zI → Prop} (hR : RSc hr) (j : Int) (l1 : Int) (l2 : Int) (hj : 0 ≤ j ∧ j < 6)
    (F : P (zup (zup (zup (zup (zup (zup (zup hi 25 j 2 l1) 25 j 3 l2) 25 j 4 0) 25 j 5 0) 25 j 6 0) 25 j 7 0) 26 j 0 l1)) :
    W1v mX6_begin [.inr (some (25, j)), .inl l1, .inl l2] hi hr P :=
  WPm.of rfl (show WP mX6_begin 0 [some (.inr (some (25, j))), some (.inl l1), some (.inl l2)] [] hi hr (zQ1v hr P) from
  WP.aload_n (pc2 := 1) (i := 0) rfl (by decide +kernel) rfl <|
  WP.iload_n (pc2 := 2) (i := 1) rfl (by decide +kernel) rfl <|
  WP.putI (pc2 := 5) rfl (by decide +kernel) zc_6 zSh_25 (by decide) rfl lf_X6_18 rfl (z_int _) rfl <|
  WP.aload_n (pc2 := 6) (i := 0) rfl (by decide +kernel) rfl <|
  WP.iload_n (pc2 := 7) (i := 2) rfl (by decide +kernel) rfl <|
  WP.putI (pc2 := 10) rfl (by decide +kernel) zc_6 zSh_25 (by decide) rfl lf_X6_22 rfl (z_int _) rfl <|
  WP.aload_n (pc2 := 11) (i := 0) rfl (by decide +kernel) rfl <|
  WP.iconst (pc2 := 12) (x := 0) rfl (by decide +kernel) (by decide) <|
  WP.putI (pc2 := 15) rfl (by decide +kernel) zc_6 zSh_25 (by decide) rfl lf_X6_25 rfl (z_int _) rfl <|
  WP.aload_n (pc2 := 16) (i := 0) rfl (by decide +kernel) rfl <|
  WP.iconst (pc2 := 17) (x := 0) rfl (by decide +kernel) (by decide) <|
  WP.putI (pc2 := 20) rfl (by decide +kernel) zc_6 zSh_25 (by decide) rfl lf_X6_28 rfl (z_int _) rfl <|
  WP.aload_n (pc2 := 21) (i := 0) rfl (by decide +kernel) rfl <|
  WP.iconst (pc2 := 22) (x := 0) rfl (by decide +kernel) (by decide) <|
  WP.putI (pc2 := 25) rfl (by decide +kernel) zc_6 zSh_25 (by decide) rfl lf_X6_31 rfl (z_int _) rfl <|
  WP.aload_n (pc2 := 26) (i := 0) rfl (by decide +kernel) rfl <|
  WP.iconst (pc2 := 27) (x := 0) rfl (by decide +kernel) (by decide) <|
  WP.putI (pc2 := 30) rfl (by decide +kernel) zc_6 zSh_25 (by decide) rfl lf_X6_34 rfl (z_int _) rfl <|
  WP.aload_n (pc2 := 31) (i := 0) rfl (by decide +kernel) rfl <|
  WP.getR (pc2 := 34) rfl (by decide +kernel) zc_6 zSh_25 (by decide) rfl lf_X6_9 rfl (rs_25_0 hR j hj) <|
  WP.iconst (pc2 := 35) (x := 0) rfl (by decide +kernel) (by decide) <|
  WP.iload_n (pc2 := 36) (i := 1) rfl (by decide +kernel) rfl <|
  WP.iastore (pc2 := 37) rfl (by decide +kernel) zSh_26 rfl (by decide) <|
  WP.vret (by decide +kernel) rfl ⟨rfl, rfl, F⟩)
set_option maxRecDepth 100000 in
set_option maxHeartbeats 4000000 in
theorem GX6_addMove {hi : zI} {hr : zR} {P : zI → Prop} (j : Int) (l1 : Int) (hj : 0 ≤ j ∧ j < 6)
    (F : W1i mX6_addStep [.inr (some (25, j)), .inl l1] hi hr (fun (x1 : Int) (hi2 : zI) => (x1 = 0 → P hi2) ∧ (x1 ≠ 0 → (W1v mX6_addAct [.inr (some (25, j))] hi2 hr (fun (hi3 : zI) => P hi3))))) :
    W1v mX6_addMove [.inr (some (25, j)), .inl l1] hi hr P :=
  WPm.of rfl (show WP mX6_addMove 0 [some (.inr (some (25, j))), some (.inl l1)] [] hi hr (zQ1v hr P) from
  WP.aload_n (pc2 := 1) (i := 0) rfl (by decide +kernel) rfl <|
  WP.iload_n (pc2 := 2) (i := 1) rfl (by decide +kernel) rfl <|
  WP.callV (y := mX6_addMove) (index := 37) (pc2 := 5) (y' := mX6_addStep) (vs := [.inl l1]) rfl (by decide +kernel) okX6_addStep ⟨by decide, by decide⟩ ⟨lm_X6_37, ivX6_addStep⟩ zSh_25 zc_6 (Nat.le_of_ble_eq_true rfl) ⟨rfl, rfl⟩ rfl (WP.c1i F (fun x1 hi2 _ f8 =>
  WP.if_eq (pc2 := 8) (off := 7) (tgt := 12) rfl (by decide +kernel) (by decide) (fun h5 => have f6 := f8.1 h5
  WP.vret (by decide +kernel) rfl ⟨rfl, rfl, f6⟩) (fun h5 => have f7 := f8.2 h5
  WP.aload_n (pc2 := 9) (i := 0) rfl (by decide +kernel) rfl <|
  WP.callV (y := mX6_addMove) (index := 41) (pc2 := 12) (y' := mX6_addAct) (vs := []) rfl (by decide +kernel) okX6_addAct ⟨by decide, by decide⟩ ⟨lm_X6_41, ivX6_addAct⟩ zSh_25 zc_6 (Nat.le_of_ble_eq_true rfl) ⟨rfl, rfl⟩ rfl (WP.c1v f7 (fun hi3 f4 =>
  WP.vret (by decide +kernel) rfl ⟨rfl, rfl, f4⟩))))))
set_option maxRecDepth 100000 in
set_option maxHeartbeats 4000000 in
theorem GX6_addWait {hi : zI} {hr : zR} {P : zI → Prop} (j : Int) (l1 : Int) (hj : 0 ≤ j ∧ j < 6)
    (F : W1i mX6_addStep [.inr (some (25, j)), .inl l1] hi hr (fun (x1 : Int) (hi2 : zI) => P hi2)) :
    W1v mX6_addWait [.inr (some (25, j)), .inl l1] hi hr P :=
  WPm.of rfl (show WP mX6_addWait 0 [some (.inr (some (25, j))), some (.inl l1)] [] hi hr (zQ1v hr P) from
  WP.aload_n (pc2 := 1) (i := 0) rfl (by decide +kernel) rfl <|
  WP.iload_n (pc2 := 2) (i := 1) rfl (by decide +kernel) rfl <|
  WP.callV (y := mX6_addWait) (index := 37) (pc2 := 5) (y' := mX6_addStep) (vs := [.inl l1]) rfl (by decide +kernel) okX6_addStep ⟨by decide, by decide⟩ ⟨lm_X6_37, ivX6_addStep⟩ zSh_25 zc_6 (Nat.le_of_ble_eq_true rfl) ⟨rfl, rfl⟩ rfl (WP.c1i F (fun x1 hi2 _ f3 =>
  WP.pop (pc2 := 6) rfl (by decide +kernel) <|
  WP.vret (by decide +kernel) rfl ⟨rfl, rfl, f3⟩)))
set_option maxRecDepth 100000 in
set_option maxHeartbeats 4000000 in
theorem GX6_addTurn {hi : zI} {hr : zR} {P : zI → Prop} (j : Int) (l1 : Int) (l2 : Int) (hj : 0 ≤ j ∧ j < 6)
    (F : W1i mX6_addStep [.inr (some (25, j)), .inl l1] hi hr (fun (x1 : Int) (hi2 : zI) => (x1 = 0 → P hi2) ∧ (x1 ≠ 0 → (W1v mX6_addAct [.inr (some (25, j))] hi2 hr (fun (hi3 : zI) => (l2 ≠ 1 → (P (zup hi3 25 j 7 (hi3 25 j 5)))) ∧ (l2 = 1 → (P (zup hi3 25 j 6 (hi3 25 j 5))))))))) :
    W1v mX6_addTurn [.inr (some (25, j)), .inl l1, .inl l2] hi hr P :=
  WPm.of rfl (show WP mX6_addTurn 0 [some (.inr (some (25, j))), some (.inl l1), some (.inl l2)] [] hi hr (zQ1v hr P) from
  WP.aload_n (pc2 := 1) (i := 0) rfl (by decide +kernel) rfl <|
  WP.iload_n (pc2 := 2) (i := 1) rfl (by decide +kernel) rfl <|
  WP.callV (y := mX6_addTurn) (index := 37) (pc2 := 5) (y' := mX6_addStep) (vs := [.inl l1]) rfl (by decide +kernel) okX6_addStep ⟨by decide, by decide⟩ ⟨lm_X6_37, ivX6_addStep⟩ zSh_25 zc_6 (Nat.le_of_ble_eq_true rfl) ⟨rfl, rfl⟩ rfl (WP.c1i F (fun x1 hi2 _ f11 =>
  WP.if_eq (pc2 := 8) (off := 31) (tgt := 36) rfl (by decide +kernel) (by decide) (fun h8 => have f9 := f11.1 h8
  WP.vret (by decide +kernel) rfl ⟨rfl, rfl, f9⟩) (fun h8 => have f10 := f11.2 h8
  WP.aload_n (pc2 := 9) (i := 0) rfl (by decide +kernel) rfl <|
  WP.callV (y := mX6_addTurn) (index := 41) (pc2 := 12) (y' := mX6_addAct) (vs := []) rfl (by decide +kernel) okX6_addAct ⟨by decide, by decide⟩ ⟨lm_X6_41, ivX6_addAct⟩ zSh_25 zc_6 (Nat.le_of_ble_eq_true rfl) ⟨rfl, rfl⟩ rfl (WP.c1v f10 (fun hi3 f7 =>
  WP.iload_n (pc2 := 13) (i := 2) rfl (by decide +kernel) rfl <|
  WP.iconst (pc2 := 14) (x := 1) rfl (by decide +kernel) (by decide) <|
  WP.icmp_ne (pc2 := 17) (off := 14) (tgt := 28) rfl (by decide +kernel) (by decide) (fun h4 => have f5 := f7.1 h4
  WP.aload_n (pc2 := 29) (i := 0) rfl (by decide +kernel) rfl <|
  WP.aload_n (pc2 := 30) (i := 0) rfl (by decide +kernel) rfl <|
  WP.getI (pc2 := 33) rfl (by decide +kernel) zc_6 zSh_25 (by decide) rfl lf_X6_28 rfl rfl <|
  WP.putI (pc2 := 36) rfl (by decide +kernel) zc_6 zSh_25 (by decide) rfl lf_X6_34 rfl (z_int _) rfl <|
  WP.vret (by decide +kernel) rfl ⟨rfl, rfl, f5⟩) (fun h4 => have f6 := f7.2 h4
  WP.aload_n (pc2 := 18) (i := 0) rfl (by decide +kernel) rfl <|
  WP.aload_n (pc2 := 19) (i := 0) rfl (by decide +kernel) rfl <|
  WP.getI (pc2 := 22) rfl (by decide +kernel) zc_6 zSh_25 (by decide) rfl lf_X6_28 rfl rfl <|
  WP.putI (pc2 := 25) rfl (by decide +kernel) zc_6 zSh_25 (by decide) rfl lf_X6_31 rfl (z_int _) rfl <|
  WP.goto (off := 11) (tgt := 36) (by decide +kernel) (by decide) <|
  WP.vret (by decide +kernel) rfl ⟨rfl, rfl, f6⟩)))))))
set_option maxRecDepth 100000 in
set_option maxHeartbeats 4000000 in
theorem GX6_addStep {hi : zI} {hr : zR} {P : Int → zI → Prop} (hR : RSc hr) (j : Int) (l1 : Int) (hj : 0 ≤ j ∧ j < 6)
    (F : (hi 25 j 4 < 0 → P 0 hi) ∧ (0 ≤ hi 25 j 4 → ((hi 25 j 4 < 300 → ((zInR ((hi 25 j 4) + 1)) ∧ ((0 ≤ (hi 25 j 4) + 1 ∧ (hi 25 j 4) + 1 < 301) ∧ (P 1 (zup (zup hi 25 j 4 ((hi 25 j 4) + 1)) 26 j ((hi 25 j 4) + 1) l1))))) ∧ (300 ≤ hi 25 j 4 → P 0 hi)))) :
    W1i mX6_addStep [.inr (some (25, j)), .inl l1] hi hr P :=
  WPm.of rfl (show WP mX6_addStep 0 [some (.inr (some (25, j))), some (.inl l1)] [] hi hr (zQ1i hr P) from
  WP.aload_n (pc2 := 1) (i := 0) rfl (by decide +kernel) rfl <|
  WP.getI (pc2 := 4) rfl (by decide +kernel) zc_6 zSh_25 (by decide) rfl lf_X6_25 rfl rfl <|
  WP.if_lt (pc2 := 7) (off := 13) (tgt := 17) rfl (by decide +kernel) (by decide) (fun h4 => have f5 := F.1 h4
  WP.iconst (pc2 := 18) (x := 0) rfl (by decide +kernel) (by decide) <|
  WP.zret (by decide +kernel) rfl (by decide) (fun hx => ⟨_, rfl, hx, rfl, f5⟩)) (fun h4 => have f6 := F.2 h4
  WP.aload_n (pc2 := 8) (i := 0) rfl (by decide +kernel) rfl <|
  WP.getI (pc2 := 11) rfl (by decide +kernel) zc_6 zSh_25 (by decide) rfl lf_X6_25 rfl rfl <|
  WP.sipush (pc2 := 14) (x := 300) rfl (by decide +kernel) ⟨by decide +kernel, by decide⟩ <|
  WP.icmp_lt (pc2 := 17) (off := 5) (tgt := 19) rfl (by decide +kernel) (by decide) (fun h1 => have f2 := f6.1 h1
  WP.aload_n (pc2 := 20) (i := 0) rfl (by decide +kernel) rfl <|
  WP.dup (pc2 := 21) rfl (by decide +kernel) <|
  WP.getI (pc2 := 24) rfl (by decide +kernel) zc_6 zSh_25 (by decide) rfl lf_X6_25 rfl rfl <|
  WP.iconst (pc2 := 25) (x := 1) rfl (by decide +kernel) (by decide) <|
  WP.iadd (pc2 := 26) rfl (by decide +kernel) f2.1 <|
  WP.putI (pc2 := 29) rfl (by decide +kernel) zc_6 zSh_25 (by decide) rfl lf_X6_25 rfl (z_int _) rfl <|
  WP.aload_n (pc2 := 30) (i := 0) rfl (by decide +kernel) rfl <|
  WP.getR (pc2 := 33) rfl (by decide +kernel) zc_6 zSh_25 (by decide) rfl lf_X6_9 rfl (rs_25_0 hR j hj) <|
  WP.aload_n (pc2 := 34) (i := 0) rfl (by decide +kernel) rfl <|
  WP.getI (pc2 := 37) rfl (by decide +kernel) zc_6 zSh_25 (by decide) rfl lf_X6_25 rfl (zup_s _ _ _ _ _) <|
  WP.iload_n (pc2 := 38) (i := 1) rfl (by decide +kernel) rfl <|
  WP.iastore (pc2 := 39) rfl (by decide +kernel) zSh_26 rfl f2.2.1 <|
  WP.iconst (pc2 := 40) (x := 1) rfl (by decide +kernel) (by decide) <|
  WP.zret (by decide +kernel) rfl (by decide) (fun hx => ⟨_, rfl, hx, rfl, f2.2.2⟩)) (fun h1 => have f3 := f6.2 h1
  WP.iconst (pc2 := 18) (x := 0) rfl (by decide +kernel) (by decide) <|
  WP.zret (by decide +kernel) rfl (by decide) (fun hx => ⟨_, rfl, hx, rfl, f3⟩))))
set_option maxRecDepth 100000 in
set_option maxHeartbeats 4000000 in
theorem GX6_addAct {hi : zI} {hr : zR} {P : zI → Prop} (hR : RSc hr) (j : Int) (hj : 0 ≤ j ∧ j < 6)
    (F : (hi 25 j 5 < 0 → P hi) ∧ (0 ≤ hi 25 j 5 → ((hi 25 j 5 < 300 → ((zInR ((hi 25 j 5) + 1)) ∧ ((zInR ((hi 25 j 3) + (hi 25 j 4))) ∧ ((0 ≤ (hi 25 j 5) + 1 ∧ (hi 25 j 5) + 1 < 301) ∧ (P (zup (zup hi 25 j 5 ((hi 25 j 5) + 1)) 28 j ((hi 25 j 5) + 1) ((hi 25 j 3) + (hi 25 j 4)))))))) ∧ (300 ≤ hi 25 j 5 → P hi)))) :
    W1v mX6_addAct [.inr (some (25, j))] hi hr P :=
  WPm.of rfl (show WP mX6_addAct 0 [some (.inr (some (25, j)))] [] hi hr (zQ1v hr P) from
  WP.aload_n (pc2 := 1) (i := 0) rfl (by decide +kernel) rfl <|
  WP.getI (pc2 := 4) rfl (by decide +kernel) zc_6 zSh_25 (by decide) rfl lf_X6_28 rfl rfl <|
  WP.if_lt (pc2 := 7) (off := 13) (tgt := 17) rfl (by decide +kernel) (by decide) (fun h4 => have f5 := F.1 h4
  WP.vret (by decide +kernel) rfl ⟨rfl, rfl, f5⟩) (fun h4 => have f6 := F.2 h4
  WP.aload_n (pc2 := 8) (i := 0) rfl (by decide +kernel) rfl <|
  WP.getI (pc2 := 11) rfl (by decide +kernel) zc_6 zSh_25 (by decide) rfl lf_X6_28 rfl rfl <|
  WP.sipush (pc2 := 14) (x := 300) rfl (by decide +kernel) ⟨by decide +kernel, by decide⟩ <|
  WP.icmp_lt (pc2 := 17) (off := 4) (tgt := 18) rfl (by decide +kernel) (by decide) (fun h1 => have f2 := f6.1 h1
  WP.aload_n (pc2 := 19) (i := 0) rfl (by decide +kernel) rfl <|
  WP.dup (pc2 := 20) rfl (by decide +kernel) <|
  WP.getI (pc2 := 23) rfl (by decide +kernel) zc_6 zSh_25 (by decide) rfl lf_X6_28 rfl rfl <|
  WP.iconst (pc2 := 24) (x := 1) rfl (by decide +kernel) (by decide) <|
  WP.iadd (pc2 := 25) rfl (by decide +kernel) f2.1 <|
  WP.putI (pc2 := 28) rfl (by decide +kernel) zc_6 zSh_25 (by decide) rfl lf_X6_28 rfl (z_int _) rfl <|
  WP.aload_n (pc2 := 29) (i := 0) rfl (by decide +kernel) rfl <|
  WP.getR (pc2 := 32) rfl (by decide +kernel) zc_6 zSh_25 (by decide) rfl lf_X6_15 rfl (rs_25_1 hR j hj) <|
  WP.aload_n (pc2 := 33) (i := 0) rfl (by decide +kernel) rfl <|
  WP.getI (pc2 := 36) rfl (by decide +kernel) zc_6 zSh_25 (by decide) rfl lf_X6_28 rfl (zup_s _ _ _ _ _) <|
  WP.aload_n (pc2 := 37) (i := 0) rfl (by decide +kernel) rfl <|
  WP.getI (pc2 := 40) rfl (by decide +kernel) zc_6 zSh_25 (by decide) rfl lf_X6_22 rfl (zup_f _ _ _ _ _ _ (by decide)) <|
  WP.aload_n (pc2 := 41) (i := 0) rfl (by decide +kernel) rfl <|
  WP.getI (pc2 := 44) rfl (by decide +kernel) zc_6 zSh_25 (by decide) rfl lf_X6_25 rfl (zup_f _ _ _ _ _ _ (by decide)) <|
  WP.iadd (pc2 := 45) rfl (by decide +kernel) f2.2.1 <|
  WP.iastore (pc2 := 46) rfl (by decide +kernel) zSh_28 rfl f2.2.2.1 <|
  WP.vret (by decide +kernel) rfl ⟨rfl, rfl, f2.2.2.2⟩) (fun h1 => have f3 := f6.2 h1
  WP.vret (by decide +kernel) rfl ⟨rfl, rfl, f3⟩)))
set_option maxRecDepth 100000 in
set_option maxHeartbeats 4000000 in
theorem GX6_lastMoment {hi : zI} {hr : zR} {P : Int → Prop} (j : Int) (hj : 0 ≤ j ∧ j < 6)
    (F : (zInR ((hi 25 j 3) + (hi 25 j 4))) ∧ (P ((hi 25 j 3) + (hi 25 j 4)))) :
    W0i mX6_lastMoment [.inr (some (25, j))] hi hr P :=
  WPm.of rfl (show WP mX6_lastMoment 0 [some (.inr (some (25, j)))] [] hi hr (zQ0i hi hr P) from
  WP.aload_n (pc2 := 1) (i := 0) rfl (by decide +kernel) rfl <|
  WP.getI (pc2 := 4) rfl (by decide +kernel) zc_6 zSh_25 (by decide) rfl lf_X6_22 rfl rfl <|
  WP.aload_n (pc2 := 5) (i := 0) rfl (by decide +kernel) rfl <|
  WP.getI (pc2 := 8) rfl (by decide +kernel) zc_6 zSh_25 (by decide) rfl lf_X6_25 rfl rfl <|
  WP.iadd (pc2 := 9) rfl (by decide +kernel) F.1 <|
  WP.iret (by decide +kernel) rfl (fun hx => ⟨_, rfl, hx, rfl, rfl, F.2⟩))
set_option maxRecDepth 100000 in
set_option maxHeartbeats 4000000 in
theorem GX6_cellAt {hi : zI} {hr : zR} {P : Int → Prop} (hR : RSc hr) (j : Int) (l1 : Int) (hj : 0 ≤ j ∧ j < 6)
    (F : (zInR (l1 - (hi 25 j 3))) ∧ ((l1 - (hi 25 j 3) ≤ 0 → (P (hi 25 j 2))) ∧ (0 < l1 - (hi 25 j 3) → ((hi 25 j 4 ≤ l1 - (hi 25 j 3) → (P (hi 25 j 2))) ∧ (l1 - (hi 25 j 3) < hi 25 j 4 → ((300 < l1 - (hi 25 j 3) → (P (hi 25 j 2))) ∧ (l1 - (hi 25 j 3) ≤ 300 → ((0 ≤ l1 - (hi 25 j 3) ∧ l1 - (hi 25 j 3) < 301) ∧ (P (hi 26 j (l1 - (hi 25 j 3)))))))))))) :
    W0i mX6_cellAt [.inr (some (25, j)), .inl l1] hi hr P :=
  WPm.of rfl (show WP mX6_cellAt 0 [some (.inr (some (25, j))), some (.inl l1), none] [] hi hr (zQ0i hi hr P) from
  WP.iload_n (pc2 := 1) (i := 1) rfl (by decide +kernel) rfl <|
  WP.aload_n (pc2 := 2) (i := 0) rfl (by decide +kernel) rfl <|
  WP.getI (pc2 := 5) rfl (by decide +kernel) zc_6 zSh_25 (by decide) rfl lf_X6_22 rfl rfl <|
  WP.isub (pc2 := 6) rfl (by decide +kernel) F.1 <|
  WP.istore_n (pc2 := 7) (i := 2) rfl (by decide +kernel) (by decide) <|
  WP.iload_n (pc2 := 8) (i := 2) rfl (by decide +kernel) rfl <|
  WP.if_le (pc2 := 11) (off := 27) (tgt := 35) rfl (by decide +kernel) (by decide) (fun h7 => have f8 := F.2.1 h7
  WP.aload_n (pc2 := 36) (i := 0) rfl (by decide +kernel) rfl <|
  WP.getI (pc2 := 39) rfl (by decide +kernel) zc_6 zSh_25 (by decide) rfl lf_X6_18 rfl rfl <|
  WP.iret (by decide +kernel) rfl (fun hx => ⟨_, rfl, hx, rfl, rfl, f8⟩)) (fun h7 => have f9 := F.2.2 h7
  WP.iload_n (pc2 := 12) (i := 2) rfl (by decide +kernel) rfl <|
  WP.aload_n (pc2 := 13) (i := 0) rfl (by decide +kernel) rfl <|
  WP.getI (pc2 := 16) rfl (by decide +kernel) zc_6 zSh_25 (by decide) rfl lf_X6_25 rfl rfl <|
  WP.icmp_ge (pc2 := 19) (off := 19) (tgt := 35) rfl (by decide +kernel) (by decide) (fun h4 => have f5 := f9.1 h4
  WP.aload_n (pc2 := 36) (i := 0) rfl (by decide +kernel) rfl <|
  WP.getI (pc2 := 39) rfl (by decide +kernel) zc_6 zSh_25 (by decide) rfl lf_X6_18 rfl rfl <|
  WP.iret (by decide +kernel) rfl (fun hx => ⟨_, rfl, hx, rfl, rfl, f5⟩)) (fun h4 => have f6 := f9.2 h4
  WP.iload_n (pc2 := 20) (i := 2) rfl (by decide +kernel) rfl <|
  WP.sipush (pc2 := 23) (x := 300) rfl (by decide +kernel) ⟨by decide +kernel, by decide⟩ <|
  WP.icmp_gt (pc2 := 26) (off := 12) (tgt := 35) rfl (by decide +kernel) (by decide) (fun h1 => have f2 := f6.1 h1
  WP.aload_n (pc2 := 36) (i := 0) rfl (by decide +kernel) rfl <|
  WP.getI (pc2 := 39) rfl (by decide +kernel) zc_6 zSh_25 (by decide) rfl lf_X6_18 rfl rfl <|
  WP.iret (by decide +kernel) rfl (fun hx => ⟨_, rfl, hx, rfl, rfl, f2⟩)) (fun h1 => have f3 := f6.2 h1
  WP.aload_n (pc2 := 27) (i := 0) rfl (by decide +kernel) rfl <|
  WP.getR (pc2 := 30) rfl (by decide +kernel) zc_6 zSh_25 (by decide) rfl lf_X6_9 rfl (rs_25_0 hR j hj) <|
  WP.iload_n (pc2 := 31) (i := 2) rfl (by decide +kernel) rfl <|
  WP.iaload (pc2 := 32) rfl (by decide +kernel) zSh_26 rfl f3.1 rfl <|
  WP.goto (off := 7) (tgt := 39) (by decide +kernel) (by decide) <|
  WP.iret (by decide +kernel) rfl (fun hx => ⟨_, rfl, hx, rfl, rfl, f3.2⟩)))))
set_option maxRecDepth 100000 in
set_option maxHeartbeats 4000000 in
theorem GX6_hasAct {hi : zI} {hr : zR} {P : Int → Prop} (j : Int) (l1 : Int) (hj : 0 ≤ j ∧ j < 6)
    (F : (l1 < 1 → P 0) ∧ (1 ≤ l1 → ((hi 25 j 5 < l1 → P 0) ∧ (l1 ≤ hi 25 j 5 → ((300 < l1 → P 0) ∧ (l1 ≤ 300 → P 1)))))) :
    W0i mX6_hasAct [.inr (some (25, j)), .inl l1] hi hr P :=
  WPm.of rfl (show WP mX6_hasAct 0 [some (.inr (some (25, j))), some (.inl l1)] [] hi hr (zQ0i hi hr P) from
  WP.iload_n (pc2 := 1) (i := 1) rfl (by decide +kernel) rfl <|
  WP.iconst (pc2 := 2) (x := 1) rfl (by decide +kernel) (by decide) <|
  WP.icmp_lt (pc2 := 5) (off := 22) (tgt := 24) rfl (by decide +kernel) (by decide) (fun h7 => have f8 := F.1 h7
  WP.iconst (pc2 := 25) (x := 0) rfl (by decide +kernel) (by decide) <|
  WP.zret (by decide +kernel) rfl (by decide) (fun hx => ⟨_, rfl, hx, rfl, rfl, f8⟩)) (fun h7 => have f9 := F.2 h7
  WP.iload_n (pc2 := 6) (i := 1) rfl (by decide +kernel) rfl <|
  WP.aload_n (pc2 := 7) (i := 0) rfl (by decide +kernel) rfl <|
  WP.getI (pc2 := 10) rfl (by decide +kernel) zc_6 zSh_25 (by decide) rfl lf_X6_28 rfl rfl <|
  WP.icmp_gt (pc2 := 13) (off := 14) (tgt := 24) rfl (by decide +kernel) (by decide) (fun h4 => have f5 := f9.1 h4
  WP.iconst (pc2 := 25) (x := 0) rfl (by decide +kernel) (by decide) <|
  WP.zret (by decide +kernel) rfl (by decide) (fun hx => ⟨_, rfl, hx, rfl, rfl, f5⟩)) (fun h4 => have f6 := f9.2 h4
  WP.iload_n (pc2 := 14) (i := 1) rfl (by decide +kernel) rfl <|
  WP.sipush (pc2 := 17) (x := 300) rfl (by decide +kernel) ⟨by decide +kernel, by decide⟩ <|
  WP.icmp_gt (pc2 := 20) (off := 7) (tgt := 24) rfl (by decide +kernel) (by decide) (fun h1 => have f2 := f6.1 h1
  WP.iconst (pc2 := 25) (x := 0) rfl (by decide +kernel) (by decide) <|
  WP.zret (by decide +kernel) rfl (by decide) (fun hx => ⟨_, rfl, hx, rfl, rfl, f2⟩)) (fun h1 => have f3 := f6.2 h1
  WP.iconst (pc2 := 21) (x := 1) rfl (by decide +kernel) (by decide) <|
  WP.goto (off := 4) (tgt := 25) (by decide +kernel) (by decide) <|
  WP.zret (by decide +kernel) rfl (by decide) (fun hx => ⟨_, rfl, hx, rfl, rfl, f3⟩)))))
set_option maxRecDepth 100000 in
set_option maxHeartbeats 4000000 in
theorem GX6_cellOfAct {hi : zI} {hr : zR} {P : Int → Prop} (hR : RSc hr) (j : Int) (l1 : Int) (hj : 0 ≤ j ∧ j < 6)
    (F : W0i mX6_hasAct [.inr (some (25, j)), .inl l1] hi hr (fun (x1 : Int) => (x1 = 0 → (P (-1))) ∧ (x1 ≠ 0 → ((l1 = hi 25 j 6 → (P (-1))) ∧ (l1 ≠ hi 25 j 6 → ((l1 = hi 25 j 7 → (P (-1))) ∧ (l1 ≠ hi 25 j 7 → ((0 ≤ l1 ∧ l1 < 301) ∧ (W0i mX6_cellAt [.inr (some (25, j)), .inl (hi 28 j l1)] hi hr (fun (x2 : Int) => P x2)))))))))) :
    W0i mX6_cellOfAct [.inr (some (25, j)), .inl l1] hi hr P :=
  WPm.of rfl (show WP mX6_cellOfAct 0 [some (.inr (some (25, j))), some (.inl l1), none] [] hi hr (zQ0i hi hr P) from
  WP.aload_n (pc2 := 1) (i := 0) rfl (by decide +kernel) rfl <|
  WP.iload_n (pc2 := 2) (i := 1) rfl (by decide +kernel) rfl <|
  WP.callV (y := mX6_cellOfAct) (index := 44) (pc2 := 5) (y' := mX6_hasAct) (vs := [.inl l1]) rfl (by decide +kernel) okX6_hasAct ⟨by decide, by decide⟩ ⟨lm_X6_44, ivX6_hasAct⟩ zSh_25 zc_6 (Nat.le_of_ble_eq_true rfl) ⟨rfl, rfl⟩ rfl (WP.c0i F (fun x1 _ f13 =>
  WP.if_eq (pc2 := 8) (off := 23) (tgt := 28) rfl (by decide +kernel) (by decide) (fun h10 => have f11 := f13.1 h10
  WP.iconst (pc2 := 29) (x := 0) rfl (by decide +kernel) (by decide) <|
  WP.istore_n (pc2 := 30) (i := 2) rfl (by decide +kernel) (by decide) <|
  WP.iload_n (pc2 := 31) (i := 2) rfl (by decide +kernel) rfl <|
  WP.if_eq (pc2 := 34) (off := 16) (tgt := 47) rfl (by decide +kernel) (by decide) (fun _ =>
  WP.iconst (pc2 := 48) (x := -1) rfl (by decide +kernel) (by decide) <|
  WP.iret (by decide +kernel) rfl (fun hx => ⟨_, rfl, hx, rfl, rfl, f11⟩)) (fun h => absurd h (by decide))) (fun h10 => have f12 := f13.2 h10
  WP.iload_n (pc2 := 9) (i := 1) rfl (by decide +kernel) rfl <|
  WP.aload_n (pc2 := 10) (i := 0) rfl (by decide +kernel) rfl <|
  WP.getI (pc2 := 13) rfl (by decide +kernel) zc_6 zSh_25 (by decide) rfl lf_X6_31 rfl rfl <|
  WP.icmp_eq (pc2 := 16) (off := 15) (tgt := 28) rfl (by decide +kernel) (by decide) (fun h7 => have f8 := f12.1 h7
  WP.iconst (pc2 := 29) (x := 0) rfl (by decide +kernel) (by decide) <|
  WP.istore_n (pc2 := 30) (i := 2) rfl (by decide +kernel) (by decide) <|
  WP.iload_n (pc2 := 31) (i := 2) rfl (by decide +kernel) rfl <|
  WP.if_eq (pc2 := 34) (off := 16) (tgt := 47) rfl (by decide +kernel) (by decide) (fun _ =>
  WP.iconst (pc2 := 48) (x := -1) rfl (by decide +kernel) (by decide) <|
  WP.iret (by decide +kernel) rfl (fun hx => ⟨_, rfl, hx, rfl, rfl, f8⟩)) (fun h => absurd h (by decide))) (fun h7 => have f9 := f12.2 h7
  WP.iload_n (pc2 := 17) (i := 1) rfl (by decide +kernel) rfl <|
  WP.aload_n (pc2 := 18) (i := 0) rfl (by decide +kernel) rfl <|
  WP.getI (pc2 := 21) rfl (by decide +kernel) zc_6 zSh_25 (by decide) rfl lf_X6_34 rfl rfl <|
  WP.icmp_eq (pc2 := 24) (off := 7) (tgt := 28) rfl (by decide +kernel) (by decide) (fun h4 => have f5 := f9.1 h4
  WP.iconst (pc2 := 29) (x := 0) rfl (by decide +kernel) (by decide) <|
  WP.istore_n (pc2 := 30) (i := 2) rfl (by decide +kernel) (by decide) <|
  WP.iload_n (pc2 := 31) (i := 2) rfl (by decide +kernel) rfl <|
  WP.if_eq (pc2 := 34) (off := 16) (tgt := 47) rfl (by decide +kernel) (by decide) (fun _ =>
  WP.iconst (pc2 := 48) (x := -1) rfl (by decide +kernel) (by decide) <|
  WP.iret (by decide +kernel) rfl (fun hx => ⟨_, rfl, hx, rfl, rfl, f5⟩)) (fun h => absurd h (by decide))) (fun h4 => have f6 := f9.2 h4
  WP.iconst (pc2 := 25) (x := 1) rfl (by decide +kernel) (by decide) <|
  WP.goto (off := 4) (tgt := 29) (by decide +kernel) (by decide) <|
  WP.istore_n (pc2 := 30) (i := 2) rfl (by decide +kernel) (by decide) <|
  WP.iload_n (pc2 := 31) (i := 2) rfl (by decide +kernel) rfl <|
  WP.if_eq (pc2 := 34) (off := 16) (tgt := 47) rfl (by decide +kernel) (by decide) (fun h => absurd h (by decide)) (fun _ =>
  WP.aload_n (pc2 := 35) (i := 0) rfl (by decide +kernel) rfl <|
  WP.aload_n (pc2 := 36) (i := 0) rfl (by decide +kernel) rfl <|
  WP.getR (pc2 := 39) rfl (by decide +kernel) zc_6 zSh_25 (by decide) rfl lf_X6_15 rfl (rs_25_1 hR j hj) <|
  WP.iload_n (pc2 := 40) (i := 1) rfl (by decide +kernel) rfl <|
  WP.iaload (pc2 := 41) rfl (by decide +kernel) zSh_28 rfl f6.1 rfl <|
  WP.callV (y := mX6_cellOfAct) (index := 47) (pc2 := 44) (y' := mX6_cellAt) (vs := [.inl (hi 28 j l1)]) rfl (by decide +kernel) okX6_cellAt ⟨by decide, by decide⟩ ⟨lm_X6_47, ivX6_cellAt⟩ zSh_25 zc_6 (Nat.le_of_ble_eq_true rfl) ⟨rfl, rfl⟩ rfl (WP.c0i f6.2 (fun x2 _ f3 =>
  WP.goto (off := 4) (tgt := 48) (by decide +kernel) (by decide) <|
  WP.iret (by decide +kernel) rfl (fun hx => ⟨_, rfl, hx, rfl, rfl, f3⟩))))))))))
set_option maxRecDepth 100000 in
set_option maxHeartbeats 4000000 in
theorem GX6_momentOfAct {hi : zI} {hr : zR} {P : Int → Prop} (hR : RSc hr) (j : Int) (l1 : Int) (hj : 0 ≤ j ∧ j < 6)
    (F : W0i mX6_hasAct [.inr (some (25, j)), .inl l1] hi hr (fun (x1 : Int) => (x1 = 0 → (P (-1))) ∧ (x1 ≠ 0 → ((0 ≤ l1 ∧ l1 < 301) ∧ (P (hi 28 j l1)))))) :
    W0i mX6_momentOfAct [.inr (some (25, j)), .inl l1] hi hr P :=
  WPm.of rfl (show WP mX6_momentOfAct 0 [some (.inr (some (25, j))), some (.inl l1)] [] hi hr (zQ0i hi hr P) from
  WP.aload_n (pc2 := 1) (i := 0) rfl (by decide +kernel) rfl <|
  WP.iload_n (pc2 := 2) (i := 1) rfl (by decide +kernel) rfl <|
  WP.callV (y := mX6_momentOfAct) (index := 44) (pc2 := 5) (y' := mX6_hasAct) (vs := [.inl l1]) rfl (by decide +kernel) okX6_hasAct ⟨by decide, by decide⟩ ⟨lm_X6_44, ivX6_hasAct⟩ zSh_25 zc_6 (Nat.le_of_ble_eq_true rfl) ⟨rfl, rfl⟩ rfl (WP.c0i F (fun x1 _ f5 =>
  WP.if_eq (pc2 := 8) (off := 12) (tgt := 17) rfl (by decide +kernel) (by decide) (fun h2 => have f3 := f5.1 h2
  WP.iconst (pc2 := 18) (x := -1) rfl (by decide +kernel) (by decide) <|
  WP.iret (by decide +kernel) rfl (fun hx => ⟨_, rfl, hx, rfl, rfl, f3⟩)) (fun h2 => have f4 := f5.2 h2
  WP.aload_n (pc2 := 9) (i := 0) rfl (by decide +kernel) rfl <|
  WP.getR (pc2 := 12) rfl (by decide +kernel) zc_6 zSh_25 (by decide) rfl lf_X6_15 rfl (rs_25_1 hR j hj) <|
  WP.iload_n (pc2 := 13) (i := 1) rfl (by decide +kernel) rfl <|
  WP.iaload (pc2 := 14) rfl (by decide +kernel) zSh_28 rfl f4.1 rfl <|
  WP.goto (off := 4) (tgt := 18) (by decide +kernel) (by decide) <|
  WP.iret (by decide +kernel) rfl (fun hx => ⟨_, rfl, hx, rfl, rfl, f4.2⟩)))))
set_option maxRecDepth 100000 in
set_option maxHeartbeats 4000000 in
theorem GX6_stageAfter {hi : zI} {hr : zR} {P : Int → Prop} (j : Int) (l1 : Int) (hj : 0 ≤ j ∧ j < 6)
    (F : (hi 25 j 5 ≤ l1 → P 0) ∧ (l1 < hi 25 j 5 → ((hi 25 j 6 ≤ l1 → ((hi 25 j 7 ≤ l1 → P 2) ∧ (l1 < hi 25 j 7 → P 1))) ∧ (l1 < hi 25 j 6 → P 0)))) :
    W0i mX6_stageAfter [.inr (some (25, j)), .inl l1] hi hr P :=
  WPm.of rfl (show WP mX6_stageAfter 0 [some (.inr (some (25, j))), some (.inl l1)] [] hi hr (zQ0i hi hr P) from
  WP.iload_n (pc2 := 1) (i := 1) rfl (by decide +kernel) rfl <|
  WP.aload_n (pc2 := 2) (i := 0) rfl (by decide +kernel) rfl <|
  WP.getI (pc2 := 5) rfl (by decide +kernel) zc_6 zSh_25 (by decide) rfl lf_X6_28 rfl rfl <|
  WP.icmp_ge (pc2 := 8) (off := 11) (tgt := 16) rfl (by decide +kernel) (by decide) (fun h7 => have f8 := F.1 h7
  WP.iconst (pc2 := 17) (x := 0) rfl (by decide +kernel) (by decide) <|
  WP.iret (by decide +kernel) rfl (fun hx => ⟨_, rfl, hx, rfl, rfl, f8⟩)) (fun h7 => have f9 := F.2 h7
  WP.iload_n (pc2 := 9) (i := 1) rfl (by decide +kernel) rfl <|
  WP.aload_n (pc2 := 10) (i := 0) rfl (by decide +kernel) rfl <|
  WP.getI (pc2 := 13) rfl (by decide +kernel) zc_6 zSh_25 (by decide) rfl lf_X6_31 rfl rfl <|
  WP.icmp_ge (pc2 := 16) (off := 5) (tgt := 18) rfl (by decide +kernel) (by decide) (fun h4 => have f5 := f9.1 h4
  WP.iload_n (pc2 := 19) (i := 1) rfl (by decide +kernel) rfl <|
  WP.aload_n (pc2 := 20) (i := 0) rfl (by decide +kernel) rfl <|
  WP.getI (pc2 := 23) rfl (by decide +kernel) zc_6 zSh_25 (by decide) rfl lf_X6_34 rfl rfl <|
  WP.icmp_ge (pc2 := 26) (off := 7) (tgt := 30) rfl (by decide +kernel) (by decide) (fun h1 => have f2 := f5.1 h1
  WP.iconst (pc2 := 31) (x := 2) rfl (by decide +kernel) (by decide) <|
  WP.iret (by decide +kernel) rfl (fun hx => ⟨_, rfl, hx, rfl, rfl, f2⟩)) (fun h1 => have f3 := f5.2 h1
  WP.iconst (pc2 := 27) (x := 1) rfl (by decide +kernel) (by decide) <|
  WP.goto (off := 4) (tgt := 31) (by decide +kernel) (by decide) <|
  WP.iret (by decide +kernel) rfl (fun hx => ⟨_, rfl, hx, rfl, rfl, f3⟩))) (fun h4 => have f6 := f9.2 h4
  WP.iconst (pc2 := 17) (x := 0) rfl (by decide +kernel) (by decide) <|
  WP.iret (by decide +kernel) rfl (fun hx => ⟨_, rfl, hx, rfl, rfl, f6⟩))))
set_option maxRecDepth 100000 in
set_option maxHeartbeats 4000000 in
theorem GX7_hasRoomForFive {hi : zI} {hr : zR} {P : Int → Prop}  
    (F : (zInR ((hi 2 0 1) + 20)) ∧ ((400 < (hi 2 0 1) + 20 → P 0) ∧ ((hi 2 0 1) + 20 ≤ 400 → P 1))) :
    W0i mX7_hasRoomForFive [.inr (some (2, 0))] hi hr P :=
  WPm.of rfl (show WP mX7_hasRoomForFive 0 [some (.inr (some (2, 0)))] [] hi hr (zQ0i hi hr P) from
  WP.aload_n (pc2 := 1) (i := 0) rfl (by decide +kernel) rfl <|
  WP.getI (pc2 := 4) rfl (by decide +kernel) zc_7 zSh_2 (by decide) rfl lf_X7_13 rfl rfl <|
  WP.bipush (pc2 := 6) (x := 20) rfl (by decide +kernel) ⟨by decide +kernel, by decide⟩ <|
  WP.iadd (pc2 := 7) rfl (by decide +kernel) F.1 <|
  WP.sipush (pc2 := 10) (x := 400) rfl (by decide +kernel) ⟨by decide +kernel, by decide⟩ <|
  WP.icmp_gt (pc2 := 13) (off := 7) (tgt := 17) rfl (by decide +kernel) (by decide) (fun h1 => have f2 := F.2.1 h1
  WP.iconst (pc2 := 18) (x := 0) rfl (by decide +kernel) (by decide) <|
  WP.zret (by decide +kernel) rfl (by decide) (fun hx => ⟨_, rfl, hx, rfl, rfl, f2⟩)) (fun h1 => have f3 := F.2.2 h1
  WP.iconst (pc2 := 14) (x := 1) rfl (by decide +kernel) (by decide) <|
  WP.goto (off := 4) (tgt := 18) (by decide +kernel) (by decide) <|
  WP.zret (by decide +kernel) rfl (by decide) (fun hx => ⟨_, rfl, hx, rfl, rfl, f3⟩)))
set_option maxRecDepth 100000 in
set_option maxHeartbeats 4000000 in
theorem GX7_addWord {hi : zI} {hr : zR} {P : zI → Prop} (l1 : Int) 
    (F : WP mX7_addWord 3 [some (.inr (some (2, 0))), some (.inl l1), some (.inl 24)] [] hi hr (zQ1v hr P)) :
    W1v mX7_addWord [.inr (some (2, 0)), .inl l1] hi hr P :=
  WPm.of rfl (show WP mX7_addWord 0 [some (.inr (some (2, 0))), some (.inl l1), none] [] hi hr (zQ1v hr P) from
  WP.bipush (pc2 := 2) (x := 24) rfl (by decide +kernel) ⟨by decide +kernel, by decide⟩ <|
  WP.istore_n (pc2 := 3) (i := 2) rfl (by decide +kernel) (by decide) <|
  F)

set_option maxRecDepth 100000 in
set_option maxHeartbeats 4000000 in
theorem GX7_addWord_3 {hi : zI} {hr : zR} {P : zI → Prop} (hR : RSc hr) (l1 : Int) (a2 : Int) 
    (F : (a2 < 0 → P hi) ∧ (0 ≤ a2 → ((400 ≤ hi 2 0 1 → ((zInR (a2 + (-8))) ∧ (WP mX7_addWord 3 [some (.inr (some (2, 0))), some (.inl l1), some (.inl (a2 + (-8)))] [] hi hr (zQ1v hr P)))) ∧ (hi 2 0 1 < 400 → ((0 ≤ hi 2 0 1 ∧ hi 2 0 1 < 400) ∧ ((zInR ((hi 2 0 1) + 1)) ∧ ((zInR (a2 + (-8))) ∧ (WP mX7_addWord 3 [some (.inr (some (2, 0))), some (.inl l1), some (.inl (a2 + (-8)))] [] (zup (zup hi 3 0 (hi 2 0 1) (zi2b (zushr l1 a2))) 2 0 1 ((hi 2 0 1) + 1)) hr (zQ1v hr P))))))))) :
    WP mX7_addWord 3 [some (.inr (some (2, 0))), some (.inl l1), some (.inl a2)] [] hi hr (zQ1v hr P) :=
  WP.iload_n (pc2 := 4) (i := 2) rfl (by decide +kernel) rfl <|
  WP.if_lt (pc2 := 7) (off := 42) (tgt := 46) rfl (by decide +kernel) (by decide) (fun h4 => have f5 := F.1 h4
  WP.vret (by decide +kernel) rfl ⟨rfl, rfl, f5⟩) (fun h4 => have f6 := F.2 h4
  WP.aload_n (pc2 := 8) (i := 0) rfl (by decide +kernel) rfl <|
  WP.getI (pc2 := 11) rfl (by decide +kernel) zc_7 zSh_2 (by decide) rfl lf_X7_13 rfl rfl <|
  WP.sipush (pc2 := 14) (x := 400) rfl (by decide +kernel) ⟨by decide +kernel, by decide⟩ <|
  WP.icmp_ge (pc2 := 17) (off := 26) (tgt := 40) rfl (by decide +kernel) (by decide) (fun h1 => have f2 := f6.1 h1
  WP.iinc (pc2 := 43) (i := 2) (d := -8) rfl (by decide +kernel) rfl f2.1 <|
  WP.goto (off := -40) (tgt := 3) (by decide +kernel) (by decide) <|
  f2.2) (fun h1 => have f3 := f6.2 h1
  WP.aload_n (pc2 := 18) (i := 0) rfl (by decide +kernel) rfl <|
  WP.getR (pc2 := 21) rfl (by decide +kernel) zc_7 zSh_2 (by decide) rfl lf_X7_9 rfl (rs_2_0 hR) <|
  WP.aload_n (pc2 := 22) (i := 0) rfl (by decide +kernel) rfl <|
  WP.getI (pc2 := 25) rfl (by decide +kernel) zc_7 zSh_2 (by decide) rfl lf_X7_13 rfl rfl <|
  WP.iload_n (pc2 := 26) (i := 1) rfl (by decide +kernel) rfl <|
  WP.iload_n (pc2 := 27) (i := 2) rfl (by decide +kernel) rfl <|
  WP.iushr (pc2 := 28) rfl (by decide +kernel) <|
  WP.i2b (pc2 := 29) rfl (by decide +kernel) <|
  WP.bastore (pc2 := 30) rfl (by decide +kernel) zSh_3 (Or.inl ⟨rfl, zi2b_rng _⟩) rfl f3.1 <|
  WP.aload_n (pc2 := 31) (i := 0) rfl (by decide +kernel) rfl <|
  WP.dup (pc2 := 32) rfl (by decide +kernel) <|
  WP.getI (pc2 := 35) rfl (by decide +kernel) zc_7 zSh_2 (by decide) rfl lf_X7_13 rfl (zup_k _ _ _ _ _ _ (by decide)) <|
  WP.iconst (pc2 := 36) (x := 1) rfl (by decide +kernel) (by decide) <|
  WP.iadd (pc2 := 37) rfl (by decide +kernel) f3.2.1 <|
  WP.putI (pc2 := 40) rfl (by decide +kernel) zc_7 zSh_2 (by decide) rfl lf_X7_13 rfl (z_int _) rfl <|
  WP.iinc (pc2 := 43) (i := 2) (d := -8) rfl (by decide +kernel) rfl f3.2.2.1 <|
  WP.goto (off := -40) (tgt := 3) (by decide +kernel) (by decide) <|
  f3.2.2.2))
set_option maxRecDepth 100000 in
set_option maxHeartbeats 4000000 in
theorem GX8_clear {hi : zI} {hr : zR} {P : zI → Prop}  
    (F : P (zup (zup (zup hi 11 0 5 0) 11 0 6 0) 11 0 7 0)) :
    W1v mX8_clear [.inr (some (11, 0))] hi hr P :=
  WPm.of rfl (show WP mX8_clear 0 [some (.inr (some (11, 0)))] [] hi hr (zQ1v hr P) from
  WP.aload_n (pc2 := 1) (i := 0) rfl (by decide +kernel) rfl <|
  WP.iconst (pc2 := 2) (x := 0) rfl (by decide +kernel) (by decide) <|
  WP.putI (pc2 := 5) rfl (by decide +kernel) zc_8 zSh_11 (by decide) rfl lf_X8_27 rfl (z_int _) rfl <|
  WP.aload_n (pc2 := 6) (i := 0) rfl (by decide +kernel) rfl <|
  WP.iconst (pc2 := 7) (x := 0) rfl (by decide +kernel) (by decide) <|
  WP.putI (pc2 := 10) rfl (by decide +kernel) zc_8 zSh_11 (by decide) rfl lf_X8_31 rfl (z_int _) rfl <|
  WP.aload_n (pc2 := 11) (i := 0) rfl (by decide +kernel) rfl <|
  WP.iconst (pc2 := 12) (x := 0) rfl (by decide +kernel) (by decide) <|
  WP.putI (pc2 := 15) rfl (by decide +kernel) zc_8 zSh_11 (by decide) rfl lf_X8_34 rfl (z_int _) rfl <|
  WP.vret (by decide +kernel) rfl ⟨rfl, rfl, F⟩)
set_option maxRecDepth 100000 in
set_option maxHeartbeats 4000000 in
theorem GX8_add {hi : zI} {hr : zR} {P : Int → zI → Prop} (hR : RSc hr) (l1 : Int) (l2 : Int) 
    (F : (hi 11 0 5 < 0 → (P (-1) hi)) ∧ (0 ≤ hi 11 0 5 → ((hi 11 0 5 < 60 → ((0 ≤ hi 11 0 5 ∧ hi 11 0 5 < 60) ∧ ((0 ≤ hi 11 0 5 ∧ hi 11 0 5 < 60) ∧ ((0 ≤ hi 11 0 5 ∧ hi 11 0 5 < 60) ∧ ((0 ≤ hi 11 0 5 ∧ hi 11 0 5 < 60) ∧ ((0 ≤ hi 11 0 5 ∧ hi 11 0 5 < 60) ∧ ((zInR ((hi 11 0 5) + 1)) ∧ ((zInR (((hi 11 0 5) + 1) - 1)) ∧ (P (((hi 11 0 5) + 1) - 1) (zup (zup (zup (zup (zup (zup hi 12 0 (hi 11 0 5) l1) 13 0 (hi 11 0 5) l2) 14 0 (hi 11 0 5) (-1)) 15 0 (hi 11 0 5) (-1)) 16 0 (hi 11 0 5) (-1)) 11 0 5 ((hi 11 0 5) + 1))))))))))) ∧ (60 ≤ hi 11 0 5 → (P (-1) hi))))) :
    W1i mX8_add [.inr (some (11, 0)), .inl l1, .inl l2] hi hr P :=
  WPm.of rfl (show WP mX8_add 0 [some (.inr (some (11, 0))), some (.inl l1), some (.inl l2)] [] hi hr (zQ1i hr P) from
  WP.aload_n (pc2 := 1) (i := 0) rfl (by decide +kernel) rfl <|
  WP.getI (pc2 := 4) rfl (by decide +kernel) zc_8 zSh_11 (by decide) rfl lf_X8_27 rfl rfl <|
  WP.if_lt (pc2 := 7) (off := 12) (tgt := 16) rfl (by decide +kernel) (by decide) (fun h4 => have f5 := F.1 h4
  WP.iconst (pc2 := 17) (x := -1) rfl (by decide +kernel) (by decide) <|
  WP.iret (by decide +kernel) rfl (fun hx => ⟨_, rfl, hx, rfl, f5⟩)) (fun h4 => have f6 := F.2 h4
  WP.aload_n (pc2 := 8) (i := 0) rfl (by decide +kernel) rfl <|
  WP.getI (pc2 := 11) rfl (by decide +kernel) zc_8 zSh_11 (by decide) rfl lf_X8_27 rfl rfl <|
  WP.bipush (pc2 := 13) (x := 60) rfl (by decide +kernel) ⟨by decide +kernel, by decide⟩ <|
  WP.icmp_lt (pc2 := 16) (off := 5) (tgt := 18) rfl (by decide +kernel) (by decide) (fun h1 => have f2 := f6.1 h1
  WP.aload_n (pc2 := 19) (i := 0) rfl (by decide +kernel) rfl <|
  WP.getR (pc2 := 22) rfl (by decide +kernel) zc_8 zSh_11 (by decide) rfl lf_X8_11 rfl (rs_11_0 hR) <|
  WP.aload_n (pc2 := 23) (i := 0) rfl (by decide +kernel) rfl <|
  WP.getI (pc2 := 26) rfl (by decide +kernel) zc_8 zSh_11 (by decide) rfl lf_X8_27 rfl rfl <|
  WP.iload_n (pc2 := 27) (i := 1) rfl (by decide +kernel) rfl <|
  WP.iastore (pc2 := 28) rfl (by decide +kernel) zSh_12 rfl f2.1 <|
  WP.aload_n (pc2 := 29) (i := 0) rfl (by decide +kernel) rfl <|
  WP.getR (pc2 := 32) rfl (by decide +kernel) zc_8 zSh_11 (by decide) rfl lf_X8_15 rfl (rs_11_1 hR) <|
  WP.aload_n (pc2 := 33) (i := 0) rfl (by decide +kernel) rfl <|
  WP.getI (pc2 := 36) rfl (by decide +kernel) zc_8 zSh_11 (by decide) rfl lf_X8_27 rfl (zup_k _ _ _ _ _ _ (by decide)) <|
  WP.iload_n (pc2 := 37) (i := 2) rfl (by decide +kernel) rfl <|
  WP.iastore (pc2 := 38) rfl (by decide +kernel) zSh_13 rfl f2.2.1 <|
  WP.aload_n (pc2 := 39) (i := 0) rfl (by decide +kernel) rfl <|
  WP.getR (pc2 := 42) rfl (by decide +kernel) zc_8 zSh_11 (by decide) rfl lf_X8_18 rfl (rs_11_2 hR) <|
  WP.aload_n (pc2 := 43) (i := 0) rfl (by decide +kernel) rfl <|
  WP.getI (pc2 := 46) rfl (by decide +kernel) zc_8 zSh_11 (by decide) rfl lf_X8_27 rfl ((zup_k _ _ _ _ _ _ (by decide)).trans (zup_k _ _ _ _ _ _ (by decide))) <|
  WP.iconst (pc2 := 47) (x := -1) rfl (by decide +kernel) (by decide) <|
  WP.iastore (pc2 := 48) rfl (by decide +kernel) zSh_14 rfl f2.2.2.1 <|
  WP.aload_n (pc2 := 49) (i := 0) rfl (by decide +kernel) rfl <|
  WP.getR (pc2 := 52) rfl (by decide +kernel) zc_8 zSh_11 (by decide) rfl lf_X8_21 rfl (rs_11_3 hR) <|
  WP.aload_n (pc2 := 53) (i := 0) rfl (by decide +kernel) rfl <|
  WP.getI (pc2 := 56) rfl (by decide +kernel) zc_8 zSh_11 (by decide) rfl lf_X8_27 rfl ((zup_k _ _ _ _ _ _ (by decide)).trans ((zup_k _ _ _ _ _ _ (by decide)).trans (zup_k _ _ _ _ _ _ (by decide)))) <|
  WP.iconst (pc2 := 57) (x := -1) rfl (by decide +kernel) (by decide) <|
  WP.iastore (pc2 := 58) rfl (by decide +kernel) zSh_15 rfl f2.2.2.2.1 <|
  WP.aload_n (pc2 := 59) (i := 0) rfl (by decide +kernel) rfl <|
  WP.getR (pc2 := 62) rfl (by decide +kernel) zc_8 zSh_11 (by decide) rfl lf_X8_24 rfl (rs_11_4 hR) <|
  WP.aload_n (pc2 := 63) (i := 0) rfl (by decide +kernel) rfl <|
  WP.getI (pc2 := 66) rfl (by decide +kernel) zc_8 zSh_11 (by decide) rfl lf_X8_27 rfl ((zup_k _ _ _ _ _ _ (by decide)).trans ((zup_k _ _ _ _ _ _ (by decide)).trans ((zup_k _ _ _ _ _ _ (by decide)).trans (zup_k _ _ _ _ _ _ (by decide))))) <|
  WP.iconst (pc2 := 67) (x := -1) rfl (by decide +kernel) (by decide) <|
  WP.iastore (pc2 := 68) rfl (by decide +kernel) zSh_16 rfl f2.2.2.2.2.1 <|
  WP.aload_n (pc2 := 69) (i := 0) rfl (by decide +kernel) rfl <|
  WP.dup (pc2 := 70) rfl (by decide +kernel) <|
  WP.getI (pc2 := 73) rfl (by decide +kernel) zc_8 zSh_11 (by decide) rfl lf_X8_27 rfl ((zup_k _ _ _ _ _ _ (by decide)).trans ((zup_k _ _ _ _ _ _ (by decide)).trans ((zup_k _ _ _ _ _ _ (by decide)).trans ((zup_k _ _ _ _ _ _ (by decide)).trans (zup_k _ _ _ _ _ _ (by decide)))))) <|
  WP.iconst (pc2 := 74) (x := 1) rfl (by decide +kernel) (by decide) <|
  WP.iadd (pc2 := 75) rfl (by decide +kernel) f2.2.2.2.2.2.1 <|
  WP.putI (pc2 := 78) rfl (by decide +kernel) zc_8 zSh_11 (by decide) rfl lf_X8_27 rfl (z_int _) rfl <|
  WP.aload_n (pc2 := 79) (i := 0) rfl (by decide +kernel) rfl <|
  WP.getI (pc2 := 82) rfl (by decide +kernel) zc_8 zSh_11 (by decide) rfl lf_X8_27 rfl (zup_s _ _ _ _ _) <|
  WP.iconst (pc2 := 83) (x := 1) rfl (by decide +kernel) (by decide) <|
  WP.isub (pc2 := 84) rfl (by decide +kernel) f2.2.2.2.2.2.2.1 <|
  WP.iret (by decide +kernel) rfl (fun hx => ⟨_, rfl, hx, rfl, f2.2.2.2.2.2.2.2⟩)) (fun h1 => have f3 := f6.2 h1
  WP.iconst (pc2 := 17) (x := -1) rfl (by decide +kernel) (by decide) <|
  WP.iret (by decide +kernel) rfl (fun hx => ⟨_, rfl, hx, rfl, f3⟩))))
set_option maxRecDepth 100000 in
set_option maxHeartbeats 4000000 in
theorem GX8_has {hi : zI} {hr : zR} {P : Int → Prop} (l1 : Int) 
    (F : (l1 < 0 → P 0) ∧ (0 ≤ l1 → ((hi 11 0 5 ≤ l1 → P 0) ∧ (l1 < hi 11 0 5 → ((60 ≤ l1 → P 0) ∧ (l1 < 60 → P 1)))))) :
    W0i mX8_has [.inr (some (11, 0)), .inl l1] hi hr P :=
  WPm.of rfl (show WP mX8_has 0 [some (.inr (some (11, 0))), some (.inl l1)] [] hi hr (zQ0i hi hr P) from
  WP.iload_n (pc2 := 1) (i := 1) rfl (by decide +kernel) rfl <|
  WP.if_lt (pc2 := 4) (off := 21) (tgt := 22) rfl (by decide +kernel) (by decide) (fun h7 => have f8 := F.1 h7
  WP.iconst (pc2 := 23) (x := 0) rfl (by decide +kernel) (by decide) <|
  WP.zret (by decide +kernel) rfl (by decide) (fun hx => ⟨_, rfl, hx, rfl, rfl, f8⟩)) (fun h7 => have f9 := F.2 h7
  WP.iload_n (pc2 := 5) (i := 1) rfl (by decide +kernel) rfl <|
  WP.aload_n (pc2 := 6) (i := 0) rfl (by decide +kernel) rfl <|
  WP.getI (pc2 := 9) rfl (by decide +kernel) zc_8 zSh_11 (by decide) rfl lf_X8_27 rfl rfl <|
  WP.icmp_ge (pc2 := 12) (off := 13) (tgt := 22) rfl (by decide +kernel) (by decide) (fun h4 => have f5 := f9.1 h4
  WP.iconst (pc2 := 23) (x := 0) rfl (by decide +kernel) (by decide) <|
  WP.zret (by decide +kernel) rfl (by decide) (fun hx => ⟨_, rfl, hx, rfl, rfl, f5⟩)) (fun h4 => have f6 := f9.2 h4
  WP.iload_n (pc2 := 13) (i := 1) rfl (by decide +kernel) rfl <|
  WP.bipush (pc2 := 15) (x := 60) rfl (by decide +kernel) ⟨by decide +kernel, by decide⟩ <|
  WP.icmp_ge (pc2 := 18) (off := 7) (tgt := 22) rfl (by decide +kernel) (by decide) (fun h1 => have f2 := f6.1 h1
  WP.iconst (pc2 := 23) (x := 0) rfl (by decide +kernel) (by decide) <|
  WP.zret (by decide +kernel) rfl (by decide) (fun hx => ⟨_, rfl, hx, rfl, rfl, f2⟩)) (fun h1 => have f3 := f6.2 h1
  WP.iconst (pc2 := 19) (x := 1) rfl (by decide +kernel) (by decide) <|
  WP.goto (off := 4) (tgt := 23) (by decide +kernel) (by decide) <|
  WP.zret (by decide +kernel) rfl (by decide) (fun hx => ⟨_, rfl, hx, rfl, rfl, f3⟩)))))
set_option maxRecDepth 100000 in
set_option maxHeartbeats 4000000 in
theorem GX8_give {hi : zI} {hr : zR} {P : zI → Prop} (hR : RSc hr) (l1 : Int) (l2 : Int) (l3 : Int) 
    (F : W0i mX8_has [.inr (some (11, 0)), .inl l1] hi hr (fun (x1 : Int) => (x1 = 0 → P hi) ∧ (x1 ≠ 0 → ((0 ≤ l1 ∧ l1 < 60) ∧ ((0 ≤ l1 ∧ l1 < 60) ∧ ((zInR ((hi 11 0 6) + 1)) ∧ (P (zup (zup (zup hi 14 0 l1 l2) 15 0 l1 l3) 11 0 6 ((hi 11 0 6) + 1))))))))) :
    W1v mX8_give [.inr (some (11, 0)), .inl l1, .inl l2, .inl l3] hi hr P :=
  WPm.of rfl (show WP mX8_give 0 [some (.inr (some (11, 0))), some (.inl l1), some (.inl l2), some (.inl l3)] [] hi hr (zQ1v hr P) from
  WP.aload_n (pc2 := 1) (i := 0) rfl (by decide +kernel) rfl <|
  WP.iload_n (pc2 := 2) (i := 1) rfl (by decide +kernel) rfl <|
  WP.callV (y := mX8_give) (index := 37) (pc2 := 5) (y' := mX8_has) (vs := [.inl l1]) rfl (by decide +kernel) okX8_has ⟨by decide, by decide⟩ ⟨lm_X8_37, ivX8_has⟩ zSh_11 zc_8 (Nat.le_of_ble_eq_true rfl) ⟨rfl, rfl⟩ rfl (WP.c0i F (fun x1 _ f5 =>
  WP.if_eq (pc2 := 8) (off := 27) (tgt := 32) rfl (by decide +kernel) (by decide) (fun h2 => have f3 := f5.1 h2
  WP.vret (by decide +kernel) rfl ⟨rfl, rfl, f3⟩) (fun h2 => have f4 := f5.2 h2
  WP.aload_n (pc2 := 9) (i := 0) rfl (by decide +kernel) rfl <|
  WP.getR (pc2 := 12) rfl (by decide +kernel) zc_8 zSh_11 (by decide) rfl lf_X8_18 rfl (rs_11_2 hR) <|
  WP.iload_n (pc2 := 13) (i := 1) rfl (by decide +kernel) rfl <|
  WP.iload_n (pc2 := 14) (i := 2) rfl (by decide +kernel) rfl <|
  WP.iastore (pc2 := 15) rfl (by decide +kernel) zSh_14 rfl f4.1 <|
  WP.aload_n (pc2 := 16) (i := 0) rfl (by decide +kernel) rfl <|
  WP.getR (pc2 := 19) rfl (by decide +kernel) zc_8 zSh_11 (by decide) rfl lf_X8_21 rfl (rs_11_3 hR) <|
  WP.iload_n (pc2 := 20) (i := 1) rfl (by decide +kernel) rfl <|
  WP.iload_n (pc2 := 21) (i := 3) rfl (by decide +kernel) rfl <|
  WP.iastore (pc2 := 22) rfl (by decide +kernel) zSh_15 rfl f4.2.1 <|
  WP.aload_n (pc2 := 23) (i := 0) rfl (by decide +kernel) rfl <|
  WP.dup (pc2 := 24) rfl (by decide +kernel) <|
  WP.getI (pc2 := 27) rfl (by decide +kernel) zc_8 zSh_11 (by decide) rfl lf_X8_31 rfl ((zup_k _ _ _ _ _ _ (by decide)).trans (zup_k _ _ _ _ _ _ (by decide))) <|
  WP.iconst (pc2 := 28) (x := 1) rfl (by decide +kernel) (by decide) <|
  WP.iadd (pc2 := 29) rfl (by decide +kernel) f4.2.2.1 <|
  WP.putI (pc2 := 32) rfl (by decide +kernel) zc_8 zSh_11 (by decide) rfl lf_X8_31 rfl (z_int _) rfl <|
  WP.vret (by decide +kernel) rfl ⟨rfl, rfl, f4.2.2.2⟩))))
set_option maxRecDepth 100000 in
set_option maxHeartbeats 4000000 in
theorem GX8_finish {hi : zI} {hr : zR} {P : zI → Prop} (hR : RSc hr) (l1 : Int) (l2 : Int) 
    (F : W0i mX8_has [.inr (some (11, 0)), .inl l1] hi hr (fun (x1 : Int) => (x1 = 0 → P hi) ∧ (x1 ≠ 0 → ((0 ≤ l1 ∧ l1 < 60) ∧ ((zInR ((hi 11 0 7) + 1)) ∧ (P (zup (zup hi 16 0 l1 l2) 11 0 7 ((hi 11 0 7) + 1)))))))) :
    W1v mX8_finish [.inr (some (11, 0)), .inl l1, .inl l2] hi hr P :=
  WPm.of rfl (show WP mX8_finish 0 [some (.inr (some (11, 0))), some (.inl l1), some (.inl l2)] [] hi hr (zQ1v hr P) from
  WP.aload_n (pc2 := 1) (i := 0) rfl (by decide +kernel) rfl <|
  WP.iload_n (pc2 := 2) (i := 1) rfl (by decide +kernel) rfl <|
  WP.callV (y := mX8_finish) (index := 37) (pc2 := 5) (y' := mX8_has) (vs := [.inl l1]) rfl (by decide +kernel) okX8_has ⟨by decide, by decide⟩ ⟨lm_X8_37, ivX8_has⟩ zSh_11 zc_8 (Nat.le_of_ble_eq_true rfl) ⟨rfl, rfl⟩ rfl (WP.c0i F (fun x1 _ f5 =>
  WP.if_eq (pc2 := 8) (off := 20) (tgt := 25) rfl (by decide +kernel) (by decide) (fun h2 => have f3 := f5.1 h2
  WP.vret (by decide +kernel) rfl ⟨rfl, rfl, f3⟩) (fun h2 => have f4 := f5.2 h2
  WP.aload_n (pc2 := 9) (i := 0) rfl (by decide +kernel) rfl <|
  WP.getR (pc2 := 12) rfl (by decide +kernel) zc_8 zSh_11 (by decide) rfl lf_X8_24 rfl (rs_11_4 hR) <|
  WP.iload_n (pc2 := 13) (i := 1) rfl (by decide +kernel) rfl <|
  WP.iload_n (pc2 := 14) (i := 2) rfl (by decide +kernel) rfl <|
  WP.iastore (pc2 := 15) rfl (by decide +kernel) zSh_16 rfl f4.1 <|
  WP.aload_n (pc2 := 16) (i := 0) rfl (by decide +kernel) rfl <|
  WP.dup (pc2 := 17) rfl (by decide +kernel) <|
  WP.getI (pc2 := 20) rfl (by decide +kernel) zc_8 zSh_11 (by decide) rfl lf_X8_34 rfl (zup_k _ _ _ _ _ _ (by decide)) <|
  WP.iconst (pc2 := 21) (x := 1) rfl (by decide +kernel) (by decide) <|
  WP.iadd (pc2 := 22) rfl (by decide +kernel) f4.2.1 <|
  WP.putI (pc2 := 25) rfl (by decide +kernel) zc_8 zSh_11 (by decide) rfl lf_X8_34 rfl (z_int _) rfl <|
  WP.vret (by decide +kernel) rfl ⟨rfl, rfl, f4.2.2⟩))))
set_option maxRecDepth 100000 in
set_option maxHeartbeats 4000000 in
theorem GX8_answer {hi : zI} {hr : zR} {P : Int → Prop} (hR : RSc hr) (l1 : Int) (l2 : Int) 
    (F : W0i mX8_has [.inr (some (11, 0)), .inl l1] hi hr (fun (x1 : Int) => (x1 ≠ 0 → (((l2 < 0 ∨ 4 < l2) → (P (-1))) ∧ (l2 = 0 → ((0 ≤ l1 ∧ l1 < 60) ∧ (P (hi 12 0 l1)))) ∧ (l2 = 1 → ((0 ≤ l1 ∧ l1 < 60) ∧ (P (hi 13 0 l1)))) ∧ (l2 = 2 → ((0 ≤ l1 ∧ l1 < 60) ∧ (P (hi 14 0 l1)))) ∧ (l2 = 3 → ((0 ≤ l1 ∧ l1 < 60) ∧ (P (hi 15 0 l1)))) ∧ (l2 = 4 → ((0 ≤ l1 ∧ l1 < 60) ∧ (P (hi 16 0 l1)))))) ∧ (x1 = 0 → (P (-1))))) :
    W0i mX8_answer [.inr (some (11, 0)), .inl l1, .inl l2] hi hr P :=
  WPm.of rfl (show WP mX8_answer 0 [some (.inr (some (11, 0))), some (.inl l1), some (.inl l2)] [] hi hr (zQ0i hi hr P) from
  WP.aload_n (pc2 := 1) (i := 0) rfl (by decide +kernel) rfl <|
  WP.iload_n (pc2 := 2) (i := 1) rfl (by decide +kernel) rfl <|
  WP.callV (y := mX8_answer) (index := 37) (pc2 := 5) (y' := mX8_has) (vs := [.inl l1]) rfl (by decide +kernel) okX8_has ⟨by decide, by decide⟩ ⟨lm_X8_37, ivX8_has⟩ zSh_11 zc_8 (Nat.le_of_ble_eq_true rfl) ⟨rfl, rfl⟩ rfl (WP.c0i F (fun x1 _ f6 =>
  WP.if_ne (pc2 := 8) (off := 5) (tgt := 10) rfl (by decide +kernel) (by decide) (fun h3 => have f4 := f6.1 h3
  WP.iload_n (pc2 := 11) (i := 2) rfl (by decide +kernel) rfl <|
  WP.tsw (dflt := 68) (lo := 0) (hi' := 4) (offs := #[33, 40, 47, 54, 61]) (len := 33) (by decide +kernel) (fun h2 => ⟨79, by decide, have f7 := f4.1 h2
  WP.iconst (pc2 := 80) (x := -1) rfl (by decide +kernel) (by decide) <|
  WP.iret (by decide +kernel) rfl (fun hx => ⟨_, rfl, hx, rfl, rfl, f7⟩)⟩) (fun h1 h2 => by
  rcases (show l2 = 0 ∨ l2 = 1 ∨ l2 = 2 ∨ l2 = 3 ∨ l2 = 4 by omega) with h2 | h2 | h2 | h2 | h2
  · exact ⟨_, 44, by rw [h2]; rfl, by decide, have f8 := f4.2.1 h2
    WP.aload_n (pc2 := 45) (i := 0) rfl (by decide +kernel) rfl <|
  WP.getR (pc2 := 48) rfl (by decide +kernel) zc_8 zSh_11 (by decide) rfl lf_X8_11 rfl (rs_11_0 hR) <|
  WP.iload_n (pc2 := 49) (i := 1) rfl (by decide +kernel) rfl <|
  WP.iaload (pc2 := 50) rfl (by decide +kernel) zSh_12 rfl f8.1 rfl <|
  WP.iret (by decide +kernel) rfl (fun hx => ⟨_, rfl, hx, rfl, rfl, f8.2⟩)⟩
  · exact ⟨_, 51, by rw [h2]; rfl, by decide, have f9 := f4.2.2.1 h2
    WP.aload_n (pc2 := 52) (i := 0) rfl (by decide +kernel) rfl <|
  WP.getR (pc2 := 55) rfl (by decide +kernel) zc_8 zSh_11 (by decide) rfl lf_X8_15 rfl (rs_11_1 hR) <|
  WP.iload_n (pc2 := 56) (i := 1) rfl (by decide +kernel) rfl <|
  WP.iaload (pc2 := 57) rfl (by decide +kernel) zSh_13 rfl f9.1 rfl <|
  WP.iret (by decide +kernel) rfl (fun hx => ⟨_, rfl, hx, rfl, rfl, f9.2⟩)⟩
  · exact ⟨_, 58, by rw [h2]; rfl, by decide, have f10 := f4.2.2.2.1 h2
    WP.aload_n (pc2 := 59) (i := 0) rfl (by decide +kernel) rfl <|
  WP.getR (pc2 := 62) rfl (by decide +kernel) zc_8 zSh_11 (by decide) rfl lf_X8_18 rfl (rs_11_2 hR) <|
  WP.iload_n (pc2 := 63) (i := 1) rfl (by decide +kernel) rfl <|
  WP.iaload (pc2 := 64) rfl (by decide +kernel) zSh_14 rfl f10.1 rfl <|
  WP.iret (by decide +kernel) rfl (fun hx => ⟨_, rfl, hx, rfl, rfl, f10.2⟩)⟩
  · exact ⟨_, 65, by rw [h2]; rfl, by decide, have f11 := f4.2.2.2.2.1 h2
    WP.aload_n (pc2 := 66) (i := 0) rfl (by decide +kernel) rfl <|
  WP.getR (pc2 := 69) rfl (by decide +kernel) zc_8 zSh_11 (by decide) rfl lf_X8_21 rfl (rs_11_3 hR) <|
  WP.iload_n (pc2 := 70) (i := 1) rfl (by decide +kernel) rfl <|
  WP.iaload (pc2 := 71) rfl (by decide +kernel) zSh_15 rfl f11.1 rfl <|
  WP.iret (by decide +kernel) rfl (fun hx => ⟨_, rfl, hx, rfl, rfl, f11.2⟩)⟩
  · exact ⟨_, 72, by rw [h2]; rfl, by decide, have f12 := f4.2.2.2.2.2 h2
    WP.aload_n (pc2 := 73) (i := 0) rfl (by decide +kernel) rfl <|
  WP.getR (pc2 := 76) rfl (by decide +kernel) zc_8 zSh_11 (by decide) rfl lf_X8_24 rfl (rs_11_4 hR) <|
  WP.iload_n (pc2 := 77) (i := 1) rfl (by decide +kernel) rfl <|
  WP.iaload (pc2 := 78) rfl (by decide +kernel) zSh_16 rfl f12.1 rfl <|
  WP.iret (by decide +kernel) rfl (fun hx => ⟨_, rfl, hx, rfl, rfl, f12.2⟩)⟩
  )) (fun h3 => have f5 := f6.2 h3
  WP.iconst (pc2 := 9) (x := -1) rfl (by decide +kernel) (by decide) <|
  WP.iret (by decide +kernel) rfl (fun hx => ⟨_, rfl, hx, rfl, rfl, f5⟩)))))
set_option maxRecDepth 100000 in
set_option maxHeartbeats 4000000 in
theorem GX9_beginAnew {hi : zI} {hr : zR} {P : zI → Prop} (j : Int) (l1 : Int) (hj : 0 ≤ j ∧ j < 6)
    (F : P (zup (zup (zup (zup (zup (zup hi 36 j 0 l1) 36 j 1 0) 36 j 2 0) 36 j 3 0) 36 j 4 (-1)) 36 j 5 0)) :
    W1v mX9_beginAnew [.inr (some (36, j)), .inl l1] hi hr P :=
  WPm.of rfl (show WP mX9_beginAnew 0 [some (.inr (some (36, j))), some (.inl l1)] [] hi hr (zQ1v hr P) from
  WP.aload_n (pc2 := 1) (i := 0) rfl (by decide +kernel) rfl <|
  WP.iload_n (pc2 := 2) (i := 1) rfl (by decide +kernel) rfl <|
  WP.putI (pc2 := 5) rfl (by decide +kernel) zc_9 zSh_36 (by decide) rfl lf_X9_9 rfl (z_int _) rfl <|
  WP.aload_n (pc2 := 6) (i := 0) rfl (by decide +kernel) rfl <|
  WP.iconst (pc2 := 7) (x := 0) rfl (by decide +kernel) (by decide) <|
  WP.putI (pc2 := 10) rfl (by decide +kernel) zc_9 zSh_36 (by decide) rfl lf_X9_15 rfl (z_int _) rfl <|
  WP.aload_n (pc2 := 11) (i := 0) rfl (by decide +kernel) rfl <|
  WP.iconst (pc2 := 12) (x := 0) rfl (by decide +kernel) (by decide) <|
  WP.putI (pc2 := 15) rfl (by decide +kernel) zc_9 zSh_36 (by decide) rfl lf_X9_18 rfl (z_int _) rfl <|
  WP.aload_n (pc2 := 16) (i := 0) rfl (by decide +kernel) rfl <|
  WP.iconst (pc2 := 17) (x := 0) rfl (by decide +kernel) (by decide) <|
  WP.putI (pc2 := 20) rfl (by decide +kernel) zc_9 zSh_36 (by decide) rfl lf_X9_21 rfl (z_bool (by decide)) rfl <|
  WP.aload_n (pc2 := 21) (i := 0) rfl (by decide +kernel) rfl <|
  WP.iconst (pc2 := 22) (x := -1) rfl (by decide +kernel) (by decide) <|
  WP.putI (pc2 := 25) rfl (by decide +kernel) zc_9 zSh_36 (by decide) rfl lf_X9_25 rfl (z_int _) rfl <|
  WP.aload_n (pc2 := 26) (i := 0) rfl (by decide +kernel) rfl <|
  WP.iconst (pc2 := 27) (x := 0) rfl (by decide +kernel) (by decide) <|
  WP.putI (pc2 := 30) rfl (by decide +kernel) zc_9 zSh_36 (by decide) rfl lf_X9_28 rfl (z_int _) rfl <|
  WP.vret (by decide +kernel) rfl ⟨rfl, rfl, F⟩)
set_option maxRecDepth 100000 in
set_option maxHeartbeats 4000000 in
theorem GX9_halts {hi : zI} {hr : zR} {P : Int → Prop} (j : Int) (hj : 0 ≤ j ∧ j < 6)
    (F : (hi 36 j 5 < 10 → P 0) ∧ (10 ≤ hi 36 j 5 → P 1)) :
    W0i mX9_halts [.inr (some (36, j))] hi hr P :=
  WPm.of rfl (show WP mX9_halts 0 [some (.inr (some (36, j)))] [] hi hr (zQ0i hi hr P) from
  WP.aload_n (pc2 := 1) (i := 0) rfl (by decide +kernel) rfl <|
  WP.getI (pc2 := 4) rfl (by decide +kernel) zc_9 zSh_36 (by decide) rfl lf_X9_28 rfl rfl <|
  WP.bipush (pc2 := 6) (x := 10) rfl (by decide +kernel) ⟨by decide +kernel, by decide⟩ <|
  WP.icmp_lt (pc2 := 9) (off := 7) (tgt := 13) rfl (by decide +kernel) (by decide) (fun h1 => have f2 := F.1 h1
  WP.iconst (pc2 := 14) (x := 0) rfl (by decide +kernel) (by decide) <|
  WP.zret (by decide +kernel) rfl (by decide) (fun hx => ⟨_, rfl, hx, rfl, rfl, f2⟩)) (fun h1 => have f3 := F.2 h1
  WP.iconst (pc2 := 10) (x := 1) rfl (by decide +kernel) (by decide) <|
  WP.goto (off := 4) (tgt := 14) (by decide +kernel) (by decide) <|
  WP.zret (by decide +kernel) rfl (by decide) (fun hx => ⟨_, rfl, hx, rfl, rfl, f3⟩)))
set_option maxRecDepth 100000 in
set_option maxHeartbeats 4000000 in
theorem GX9_hear {hi : zI} {hr : zR} {P : zI → Prop} (j : Int) (j1 : Int) (hj : 0 ≤ j ∧ j < 6) (hj1 : 0 ≤ j1 ∧ j1 < 64)
    (F : (hi 10 j1 2 ≠ hi 36 j 1 → ((zInR ((hi 36 j 1) + 1)) ∧ ((hi 10 j1 2 ≠ (hi 36 j 1) + 1 → (P (zup hi 36 j 5 0))) ∧ (hi 10 j1 2 = (hi 36 j 1) + 1 → ((hi 10 j1 3 ≠ 1 → (P (zup hi 36 j 5 0))) ∧ (hi 10 j1 3 = 1 → (P (zup (zup (zup (zup (zup hi 36 j 5 0) 36 j 1 (hi 10 j1 2)) 36 j 2 0) 36 j 3 1) 36 j 4 (hi 10 j1 4))))))))) ∧ (hi 10 j1 2 = hi 36 j 1 → ((zInR ((hi 36 j 2) + 1)) ∧ ((hi 10 j1 3 ≠ (hi 36 j 2) + 1 → ((zInR ((hi 36 j 1) + 1)) ∧ ((hi 10 j1 2 ≠ (hi 36 j 1) + 1 → (P (zup hi 36 j 5 0))) ∧ (hi 10 j1 2 = (hi 36 j 1) + 1 → ((hi 10 j1 3 ≠ 1 → (P (zup hi 36 j 5 0))) ∧ (hi 10 j1 3 = 1 → (P (zup (zup (zup (zup (zup hi 36 j 5 0) 36 j 1 (hi 10 j1 2)) 36 j 2 0) 36 j 3 1) 36 j 4 (hi 10 j1 4))))))))) ∧ (hi 10 j1 3 = (hi 36 j 2) + 1 → ((zInR ((hi 36 j 1) + 1)) ∧ ((hi 10 j1 2 ≠ (hi 36 j 1) + 1 → (P (zup (zup (zup hi 36 j 5 0) 36 j 3 1) 36 j 4 (hi 10 j1 4)))) ∧ (hi 10 j1 2 = (hi 36 j 1) + 1 → ((hi 10 j1 3 ≠ 1 → (P (zup (zup (zup hi 36 j 5 0) 36 j 3 1) 36 j 4 (hi 10 j1 4)))) ∧ (hi 10 j1 3 = 1 → (P (zup (zup (zup (zup (zup hi 36 j 5 0) 36 j 1 (hi 10 j1 2)) 36 j 2 0) 36 j 3 1) 36 j 4 (hi 10 j1 4))))))))))))) :
    W1v mX9_hear [.inr (some (36, j)), .inr (some (10, j1))] hi hr P :=
  WPm.of rfl (show WP mX9_hear 0 [some (.inr (some (36, j))), some (.inr (some (10, j1))), none, none] [] hi hr (zQ1v hr P) from
  WP.aload_n (pc2 := 1) (i := 0) rfl (by decide +kernel) rfl <|
  WP.iconst (pc2 := 2) (x := 0) rfl (by decide +kernel) (by decide) <|
  WP.putI (pc2 := 5) rfl (by decide +kernel) zc_9 zSh_36 (by decide) rfl lf_X9_28 rfl (z_int _) rfl <|
  WP.aload_n (pc2 := 6) (i := 1) rfl (by decide +kernel) rfl <|
  WP.getI (pc2 := 9) rfl (by decide +kernel) zc_3 zSh_10 (by decide) rfl lf_X9_31 rfl (zup_k _ _ _ _ _ _ (by decide)) <|
  WP.aload_n (pc2 := 10) (i := 0) rfl (by decide +kernel) rfl <|
  WP.getI (pc2 := 13) rfl (by decide +kernel) zc_9 zSh_36 (by decide) rfl lf_X9_15 rfl (zup_f _ _ _ _ _ _ (by decide)) <|
  WP.icmp_ne (pc2 := 16) (off := 20) (tgt := 33) rfl (by decide +kernel) (by decide) (fun h22 => have f23 := F.1 h22
  WP.iconst (pc2 := 34) (x := 0) rfl (by decide +kernel) (by decide) <|
  WP.istore_n (pc2 := 35) (i := 2) rfl (by decide +kernel) (by decide) <|
  WP.aload_n (pc2 := 36) (i := 1) rfl (by decide +kernel) rfl <|
  WP.getI (pc2 := 39) rfl (by decide +kernel) zc_3 zSh_10 (by decide) rfl lf_X9_31 rfl (zup_k _ _ _ _ _ _ (by decide)) <|
  WP.aload_n (pc2 := 40) (i := 0) rfl (by decide +kernel) rfl <|
  WP.getI (pc2 := 43) rfl (by decide +kernel) zc_9 zSh_36 (by decide) rfl lf_X9_15 rfl (zup_f _ _ _ _ _ _ (by decide)) <|
  WP.iconst (pc2 := 44) (x := 1) rfl (by decide +kernel) (by decide) <|
  WP.iadd (pc2 := 45) rfl (by decide +kernel) f23.1 <|
  WP.icmp_ne (pc2 := 48) (off := 15) (tgt := 60) rfl (by decide +kernel) (by decide) (fun h4 => have f5 := f23.2.1 h4
  WP.iconst (pc2 := 61) (x := 0) rfl (by decide +kernel) (by decide) <|
  WP.istore_n (pc2 := 62) (i := 3) rfl (by decide +kernel) (by decide) <|
  WP.iload_n (pc2 := 63) (i := 3) rfl (by decide +kernel) rfl <|
  WP.if_eq (pc2 := 66) (off := 16) (tgt := 79) rfl (by decide +kernel) (by decide) (fun _ =>
  WP.iload_n (pc2 := 80) (i := 2) rfl (by decide +kernel) rfl <|
  WP.if_ne (pc2 := 83) (off := 7) (tgt := 87) rfl (by decide +kernel) (by decide) (fun h => absurd h (by decide)) (fun _ =>
  WP.iload_n (pc2 := 84) (i := 3) rfl (by decide +kernel) rfl <|
  WP.if_eq (pc2 := 87) (off := 16) (tgt := 100) rfl (by decide +kernel) (by decide) (fun _ =>
  WP.vret (by decide +kernel) rfl ⟨rfl, rfl, f5⟩) (fun h => absurd h (by decide)))) (fun h => absurd h (by decide))) (fun h4 => have f6 := f23.2.2 h4
  WP.aload_n (pc2 := 49) (i := 1) rfl (by decide +kernel) rfl <|
  WP.getI (pc2 := 52) rfl (by decide +kernel) zc_3 zSh_10 (by decide) rfl lf_X9_34 rfl (zup_k _ _ _ _ _ _ (by decide)) <|
  WP.iconst (pc2 := 53) (x := 1) rfl (by decide +kernel) (by decide) <|
  WP.icmp_ne (pc2 := 56) (off := 7) (tgt := 60) rfl (by decide +kernel) (by decide) (fun h1 => have f2 := f6.1 h1
  WP.iconst (pc2 := 61) (x := 0) rfl (by decide +kernel) (by decide) <|
  WP.istore_n (pc2 := 62) (i := 3) rfl (by decide +kernel) (by decide) <|
  WP.iload_n (pc2 := 63) (i := 3) rfl (by decide +kernel) rfl <|
  WP.if_eq (pc2 := 66) (off := 16) (tgt := 79) rfl (by decide +kernel) (by decide) (fun _ =>
  WP.iload_n (pc2 := 80) (i := 2) rfl (by decide +kernel) rfl <|
  WP.if_ne (pc2 := 83) (off := 7) (tgt := 87) rfl (by decide +kernel) (by decide) (fun h => absurd h (by decide)) (fun _ =>
  WP.iload_n (pc2 := 84) (i := 3) rfl (by decide +kernel) rfl <|
  WP.if_eq (pc2 := 87) (off := 16) (tgt := 100) rfl (by decide +kernel) (by decide) (fun _ =>
  WP.vret (by decide +kernel) rfl ⟨rfl, rfl, f2⟩) (fun h => absurd h (by decide)))) (fun h => absurd h (by decide))) (fun h1 => have f3 := f6.2 h1
  WP.iconst (pc2 := 57) (x := 1) rfl (by decide +kernel) (by decide) <|
  WP.goto (off := 4) (tgt := 61) (by decide +kernel) (by decide) <|
  WP.istore_n (pc2 := 62) (i := 3) rfl (by decide +kernel) (by decide) <|
  WP.iload_n (pc2 := 63) (i := 3) rfl (by decide +kernel) rfl <|
  WP.if_eq (pc2 := 66) (off := 16) (tgt := 79) rfl (by decide +kernel) (by decide) (fun h => absurd h (by decide)) (fun _ =>
  WP.aload_n (pc2 := 67) (i := 0) rfl (by decide +kernel) rfl <|
  WP.aload_n (pc2 := 68) (i := 1) rfl (by decide +kernel) rfl <|
  WP.getI (pc2 := 71) rfl (by decide +kernel) zc_3 zSh_10 (by decide) rfl lf_X9_31 rfl (zup_k _ _ _ _ _ _ (by decide)) <|
  WP.putI (pc2 := 74) rfl (by decide +kernel) zc_9 zSh_36 (by decide) rfl lf_X9_15 rfl (z_int _) rfl <|
  WP.aload_n (pc2 := 75) (i := 0) rfl (by decide +kernel) rfl <|
  WP.iconst (pc2 := 76) (x := 0) rfl (by decide +kernel) (by decide) <|
  WP.putI (pc2 := 79) rfl (by decide +kernel) zc_9 zSh_36 (by decide) rfl lf_X9_18 rfl (z_int _) rfl <|
  WP.iload_n (pc2 := 80) (i := 2) rfl (by decide +kernel) rfl <|
  WP.if_ne (pc2 := 83) (off := 7) (tgt := 87) rfl (by decide +kernel) (by decide) (fun h => absurd h (by decide)) (fun _ =>
  WP.iload_n (pc2 := 84) (i := 3) rfl (by decide +kernel) rfl <|
  WP.if_eq (pc2 := 87) (off := 16) (tgt := 100) rfl (by decide +kernel) (by decide) (fun h => absurd h (by decide)) (fun _ =>
  WP.aload_n (pc2 := 88) (i := 0) rfl (by decide +kernel) rfl <|
  WP.iconst (pc2 := 89) (x := 1) rfl (by decide +kernel) (by decide) <|
  WP.putI (pc2 := 92) rfl (by decide +kernel) zc_9 zSh_36 (by decide) rfl lf_X9_21 rfl (z_bool (by decide)) rfl <|
  WP.aload_n (pc2 := 93) (i := 0) rfl (by decide +kernel) rfl <|
  WP.aload_n (pc2 := 94) (i := 1) rfl (by decide +kernel) rfl <|
  WP.getI (pc2 := 97) rfl (by decide +kernel) zc_3 zSh_10 (by decide) rfl lf_X9_35 rfl ((zup_k _ _ _ _ _ _ (by decide)).trans ((zup_k _ _ _ _ _ _ (by decide)).trans ((zup_k _ _ _ _ _ _ (by decide)).trans (zup_k _ _ _ _ _ _ (by decide))))) <|
  WP.putI (pc2 := 100) rfl (by decide +kernel) zc_9 zSh_36 (by decide) rfl lf_X9_25 rfl (z_int _) rfl <|
  WP.vret (by decide +kernel) rfl ⟨rfl, rfl, f3⟩)))))) (fun h22 => have f24 := F.2 h22
  WP.aload_n (pc2 := 17) (i := 1) rfl (by decide +kernel) rfl <|
  WP.getI (pc2 := 20) rfl (by decide +kernel) zc_3 zSh_10 (by decide) rfl lf_X9_34 rfl (zup_k _ _ _ _ _ _ (by decide)) <|
  WP.aload_n (pc2 := 21) (i := 0) rfl (by decide +kernel) rfl <|
  WP.getI (pc2 := 24) rfl (by decide +kernel) zc_9 zSh_36 (by decide) rfl lf_X9_18 rfl (zup_f _ _ _ _ _ _ (by decide)) <|
  WP.iconst (pc2 := 25) (x := 1) rfl (by decide +kernel) (by decide) <|
  WP.iadd (pc2 := 26) rfl (by decide +kernel) f24.1 <|
  WP.icmp_ne (pc2 := 29) (off := 7) (tgt := 33) rfl (by decide +kernel) (by decide) (fun h19 => have f20 := f24.2.1 h19
  WP.iconst (pc2 := 34) (x := 0) rfl (by decide +kernel) (by decide) <|
  WP.istore_n (pc2 := 35) (i := 2) rfl (by decide +kernel) (by decide) <|
  WP.aload_n (pc2 := 36) (i := 1) rfl (by decide +kernel) rfl <|
  WP.getI (pc2 := 39) rfl (by decide +kernel) zc_3 zSh_10 (by decide) rfl lf_X9_31 rfl (zup_k _ _ _ _ _ _ (by decide)) <|
  WP.aload_n (pc2 := 40) (i := 0) rfl (by decide +kernel) rfl <|
  WP.getI (pc2 := 43) rfl (by decide +kernel) zc_9 zSh_36 (by decide) rfl lf_X9_15 rfl (zup_f _ _ _ _ _ _ (by decide)) <|
  WP.iconst (pc2 := 44) (x := 1) rfl (by decide +kernel) (by decide) <|
  WP.iadd (pc2 := 45) rfl (by decide +kernel) f20.1 <|
  WP.icmp_ne (pc2 := 48) (off := 15) (tgt := 60) rfl (by decide +kernel) (by decide) (fun h10 => have f11 := f20.2.1 h10
  WP.iconst (pc2 := 61) (x := 0) rfl (by decide +kernel) (by decide) <|
  WP.istore_n (pc2 := 62) (i := 3) rfl (by decide +kernel) (by decide) <|
  WP.iload_n (pc2 := 63) (i := 3) rfl (by decide +kernel) rfl <|
  WP.if_eq (pc2 := 66) (off := 16) (tgt := 79) rfl (by decide +kernel) (by decide) (fun _ =>
  WP.iload_n (pc2 := 80) (i := 2) rfl (by decide +kernel) rfl <|
  WP.if_ne (pc2 := 83) (off := 7) (tgt := 87) rfl (by decide +kernel) (by decide) (fun h => absurd h (by decide)) (fun _ =>
  WP.iload_n (pc2 := 84) (i := 3) rfl (by decide +kernel) rfl <|
  WP.if_eq (pc2 := 87) (off := 16) (tgt := 100) rfl (by decide +kernel) (by decide) (fun _ =>
  WP.vret (by decide +kernel) rfl ⟨rfl, rfl, f11⟩) (fun h => absurd h (by decide)))) (fun h => absurd h (by decide))) (fun h10 => have f12 := f20.2.2 h10
  WP.aload_n (pc2 := 49) (i := 1) rfl (by decide +kernel) rfl <|
  WP.getI (pc2 := 52) rfl (by decide +kernel) zc_3 zSh_10 (by decide) rfl lf_X9_34 rfl (zup_k _ _ _ _ _ _ (by decide)) <|
  WP.iconst (pc2 := 53) (x := 1) rfl (by decide +kernel) (by decide) <|
  WP.icmp_ne (pc2 := 56) (off := 7) (tgt := 60) rfl (by decide +kernel) (by decide) (fun h7 => have f8 := f12.1 h7
  WP.iconst (pc2 := 61) (x := 0) rfl (by decide +kernel) (by decide) <|
  WP.istore_n (pc2 := 62) (i := 3) rfl (by decide +kernel) (by decide) <|
  WP.iload_n (pc2 := 63) (i := 3) rfl (by decide +kernel) rfl <|
  WP.if_eq (pc2 := 66) (off := 16) (tgt := 79) rfl (by decide +kernel) (by decide) (fun _ =>
  WP.iload_n (pc2 := 80) (i := 2) rfl (by decide +kernel) rfl <|
  WP.if_ne (pc2 := 83) (off := 7) (tgt := 87) rfl (by decide +kernel) (by decide) (fun h => absurd h (by decide)) (fun _ =>
  WP.iload_n (pc2 := 84) (i := 3) rfl (by decide +kernel) rfl <|
  WP.if_eq (pc2 := 87) (off := 16) (tgt := 100) rfl (by decide +kernel) (by decide) (fun _ =>
  WP.vret (by decide +kernel) rfl ⟨rfl, rfl, f8⟩) (fun h => absurd h (by decide)))) (fun h => absurd h (by decide))) (fun h7 => have f9 := f12.2 h7
  WP.iconst (pc2 := 57) (x := 1) rfl (by decide +kernel) (by decide) <|
  WP.goto (off := 4) (tgt := 61) (by decide +kernel) (by decide) <|
  WP.istore_n (pc2 := 62) (i := 3) rfl (by decide +kernel) (by decide) <|
  WP.iload_n (pc2 := 63) (i := 3) rfl (by decide +kernel) rfl <|
  WP.if_eq (pc2 := 66) (off := 16) (tgt := 79) rfl (by decide +kernel) (by decide) (fun h => absurd h (by decide)) (fun _ =>
  WP.aload_n (pc2 := 67) (i := 0) rfl (by decide +kernel) rfl <|
  WP.aload_n (pc2 := 68) (i := 1) rfl (by decide +kernel) rfl <|
  WP.getI (pc2 := 71) rfl (by decide +kernel) zc_3 zSh_10 (by decide) rfl lf_X9_31 rfl (zup_k _ _ _ _ _ _ (by decide)) <|
  WP.putI (pc2 := 74) rfl (by decide +kernel) zc_9 zSh_36 (by decide) rfl lf_X9_15 rfl (z_int _) rfl <|
  WP.aload_n (pc2 := 75) (i := 0) rfl (by decide +kernel) rfl <|
  WP.iconst (pc2 := 76) (x := 0) rfl (by decide +kernel) (by decide) <|
  WP.putI (pc2 := 79) rfl (by decide +kernel) zc_9 zSh_36 (by decide) rfl lf_X9_18 rfl (z_int _) rfl <|
  WP.iload_n (pc2 := 80) (i := 2) rfl (by decide +kernel) rfl <|
  WP.if_ne (pc2 := 83) (off := 7) (tgt := 87) rfl (by decide +kernel) (by decide) (fun h => absurd h (by decide)) (fun _ =>
  WP.iload_n (pc2 := 84) (i := 3) rfl (by decide +kernel) rfl <|
  WP.if_eq (pc2 := 87) (off := 16) (tgt := 100) rfl (by decide +kernel) (by decide) (fun h => absurd h (by decide)) (fun _ =>
  WP.aload_n (pc2 := 88) (i := 0) rfl (by decide +kernel) rfl <|
  WP.iconst (pc2 := 89) (x := 1) rfl (by decide +kernel) (by decide) <|
  WP.putI (pc2 := 92) rfl (by decide +kernel) zc_9 zSh_36 (by decide) rfl lf_X9_21 rfl (z_bool (by decide)) rfl <|
  WP.aload_n (pc2 := 93) (i := 0) rfl (by decide +kernel) rfl <|
  WP.aload_n (pc2 := 94) (i := 1) rfl (by decide +kernel) rfl <|
  WP.getI (pc2 := 97) rfl (by decide +kernel) zc_3 zSh_10 (by decide) rfl lf_X9_35 rfl ((zup_k _ _ _ _ _ _ (by decide)).trans ((zup_k _ _ _ _ _ _ (by decide)).trans ((zup_k _ _ _ _ _ _ (by decide)).trans (zup_k _ _ _ _ _ _ (by decide))))) <|
  WP.putI (pc2 := 100) rfl (by decide +kernel) zc_9 zSh_36 (by decide) rfl lf_X9_25 rfl (z_int _) rfl <|
  WP.vret (by decide +kernel) rfl ⟨rfl, rfl, f9⟩)))))) (fun h19 => have f21 := f24.2.2 h19
  WP.iconst (pc2 := 30) (x := 1) rfl (by decide +kernel) (by decide) <|
  WP.goto (off := 4) (tgt := 34) (by decide +kernel) (by decide) <|
  WP.istore_n (pc2 := 35) (i := 2) rfl (by decide +kernel) (by decide) <|
  WP.aload_n (pc2 := 36) (i := 1) rfl (by decide +kernel) rfl <|
  WP.getI (pc2 := 39) rfl (by decide +kernel) zc_3 zSh_10 (by decide) rfl lf_X9_31 rfl (zup_k _ _ _ _ _ _ (by decide)) <|
  WP.aload_n (pc2 := 40) (i := 0) rfl (by decide +kernel) rfl <|
  WP.getI (pc2 := 43) rfl (by decide +kernel) zc_9 zSh_36 (by decide) rfl lf_X9_15 rfl (zup_f _ _ _ _ _ _ (by decide)) <|
  WP.iconst (pc2 := 44) (x := 1) rfl (by decide +kernel) (by decide) <|
  WP.iadd (pc2 := 45) rfl (by decide +kernel) f21.1 <|
  WP.icmp_ne (pc2 := 48) (off := 15) (tgt := 60) rfl (by decide +kernel) (by decide) (fun h16 => have f17 := f21.2.1 h16
  WP.iconst (pc2 := 61) (x := 0) rfl (by decide +kernel) (by decide) <|
  WP.istore_n (pc2 := 62) (i := 3) rfl (by decide +kernel) (by decide) <|
  WP.iload_n (pc2 := 63) (i := 3) rfl (by decide +kernel) rfl <|
  WP.if_eq (pc2 := 66) (off := 16) (tgt := 79) rfl (by decide +kernel) (by decide) (fun _ =>
  WP.iload_n (pc2 := 80) (i := 2) rfl (by decide +kernel) rfl <|
  WP.if_ne (pc2 := 83) (off := 7) (tgt := 87) rfl (by decide +kernel) (by decide) (fun _ =>
  WP.aload_n (pc2 := 88) (i := 0) rfl (by decide +kernel) rfl <|
  WP.iconst (pc2 := 89) (x := 1) rfl (by decide +kernel) (by decide) <|
  WP.putI (pc2 := 92) rfl (by decide +kernel) zc_9 zSh_36 (by decide) rfl lf_X9_21 rfl (z_bool (by decide)) rfl <|
  WP.aload_n (pc2 := 93) (i := 0) rfl (by decide +kernel) rfl <|
  WP.aload_n (pc2 := 94) (i := 1) rfl (by decide +kernel) rfl <|
  WP.getI (pc2 := 97) rfl (by decide +kernel) zc_3 zSh_10 (by decide) rfl lf_X9_35 rfl ((zup_k _ _ _ _ _ _ (by decide)).trans (zup_k _ _ _ _ _ _ (by decide))) <|
  WP.putI (pc2 := 100) rfl (by decide +kernel) zc_9 zSh_36 (by decide) rfl lf_X9_25 rfl (z_int _) rfl <|
  WP.vret (by decide +kernel) rfl ⟨rfl, rfl, f17⟩) (fun h => absurd h (by decide))) (fun h => absurd h (by decide))) (fun h16 => have f18 := f21.2.2 h16
  WP.aload_n (pc2 := 49) (i := 1) rfl (by decide +kernel) rfl <|
  WP.getI (pc2 := 52) rfl (by decide +kernel) zc_3 zSh_10 (by decide) rfl lf_X9_34 rfl (zup_k _ _ _ _ _ _ (by decide)) <|
  WP.iconst (pc2 := 53) (x := 1) rfl (by decide +kernel) (by decide) <|
  WP.icmp_ne (pc2 := 56) (off := 7) (tgt := 60) rfl (by decide +kernel) (by decide) (fun h13 => have f14 := f18.1 h13
  WP.iconst (pc2 := 61) (x := 0) rfl (by decide +kernel) (by decide) <|
  WP.istore_n (pc2 := 62) (i := 3) rfl (by decide +kernel) (by decide) <|
  WP.iload_n (pc2 := 63) (i := 3) rfl (by decide +kernel) rfl <|
  WP.if_eq (pc2 := 66) (off := 16) (tgt := 79) rfl (by decide +kernel) (by decide) (fun _ =>
  WP.iload_n (pc2 := 80) (i := 2) rfl (by decide +kernel) rfl <|
  WP.if_ne (pc2 := 83) (off := 7) (tgt := 87) rfl (by decide +kernel) (by decide) (fun _ =>
  WP.aload_n (pc2 := 88) (i := 0) rfl (by decide +kernel) rfl <|
  WP.iconst (pc2 := 89) (x := 1) rfl (by decide +kernel) (by decide) <|
  WP.putI (pc2 := 92) rfl (by decide +kernel) zc_9 zSh_36 (by decide) rfl lf_X9_21 rfl (z_bool (by decide)) rfl <|
  WP.aload_n (pc2 := 93) (i := 0) rfl (by decide +kernel) rfl <|
  WP.aload_n (pc2 := 94) (i := 1) rfl (by decide +kernel) rfl <|
  WP.getI (pc2 := 97) rfl (by decide +kernel) zc_3 zSh_10 (by decide) rfl lf_X9_35 rfl ((zup_k _ _ _ _ _ _ (by decide)).trans (zup_k _ _ _ _ _ _ (by decide))) <|
  WP.putI (pc2 := 100) rfl (by decide +kernel) zc_9 zSh_36 (by decide) rfl lf_X9_25 rfl (z_int _) rfl <|
  WP.vret (by decide +kernel) rfl ⟨rfl, rfl, f14⟩) (fun h => absurd h (by decide))) (fun h => absurd h (by decide))) (fun h13 => have f15 := f18.2 h13
  WP.iconst (pc2 := 57) (x := 1) rfl (by decide +kernel) (by decide) <|
  WP.goto (off := 4) (tgt := 61) (by decide +kernel) (by decide) <|
  WP.istore_n (pc2 := 62) (i := 3) rfl (by decide +kernel) (by decide) <|
  WP.iload_n (pc2 := 63) (i := 3) rfl (by decide +kernel) rfl <|
  WP.if_eq (pc2 := 66) (off := 16) (tgt := 79) rfl (by decide +kernel) (by decide) (fun h => absurd h (by decide)) (fun _ =>
  WP.aload_n (pc2 := 67) (i := 0) rfl (by decide +kernel) rfl <|
  WP.aload_n (pc2 := 68) (i := 1) rfl (by decide +kernel) rfl <|
  WP.getI (pc2 := 71) rfl (by decide +kernel) zc_3 zSh_10 (by decide) rfl lf_X9_31 rfl (zup_k _ _ _ _ _ _ (by decide)) <|
  WP.putI (pc2 := 74) rfl (by decide +kernel) zc_9 zSh_36 (by decide) rfl lf_X9_15 rfl (z_int _) rfl <|
  WP.aload_n (pc2 := 75) (i := 0) rfl (by decide +kernel) rfl <|
  WP.iconst (pc2 := 76) (x := 0) rfl (by decide +kernel) (by decide) <|
  WP.putI (pc2 := 79) rfl (by decide +kernel) zc_9 zSh_36 (by decide) rfl lf_X9_18 rfl (z_int _) rfl <|
  WP.iload_n (pc2 := 80) (i := 2) rfl (by decide +kernel) rfl <|
  WP.if_ne (pc2 := 83) (off := 7) (tgt := 87) rfl (by decide +kernel) (by decide) (fun _ =>
  WP.aload_n (pc2 := 88) (i := 0) rfl (by decide +kernel) rfl <|
  WP.iconst (pc2 := 89) (x := 1) rfl (by decide +kernel) (by decide) <|
  WP.putI (pc2 := 92) rfl (by decide +kernel) zc_9 zSh_36 (by decide) rfl lf_X9_21 rfl (z_bool (by decide)) rfl <|
  WP.aload_n (pc2 := 93) (i := 0) rfl (by decide +kernel) rfl <|
  WP.aload_n (pc2 := 94) (i := 1) rfl (by decide +kernel) rfl <|
  WP.getI (pc2 := 97) rfl (by decide +kernel) zc_3 zSh_10 (by decide) rfl lf_X9_35 rfl ((zup_k _ _ _ _ _ _ (by decide)).trans ((zup_k _ _ _ _ _ _ (by decide)).trans ((zup_k _ _ _ _ _ _ (by decide)).trans (zup_k _ _ _ _ _ _ (by decide))))) <|
  WP.putI (pc2 := 100) rfl (by decide +kernel) zc_9 zSh_36 (by decide) rfl lf_X9_25 rfl (z_int _) rfl <|
  WP.vret (by decide +kernel) rfl ⟨rfl, rfl, f15⟩) (fun h => absurd h (by decide))))))))
set_option maxRecDepth 100000 in
set_option maxHeartbeats 4000000 in
theorem GX9_obey {hi : zI} {hr : zR} {P : Int → zI → Prop} (j : Int) (hj : 0 ≤ j ∧ j < 6)
    (F : (hi 36 j 3 = 0 → P 0 hi) ∧ (hi 36 j 3 ≠ 0 → (W0i mX9_halts [.inr (some (36, j))] hi hr (fun (x1 : Int) => (x1 = 0 → ((hi 36 j 4 = -1 → ((zInR ((hi 36 j 2) + 1)) ∧ (P 1 (zup (zup hi 36 j 2 ((hi 36 j 2) + 1)) 36 j 3 0)))) ∧ (hi 36 j 4 ≠ -1 → ((zInR ((hi 36 j 2) + 1)) ∧ (P 1 (zup (zup (zup hi 36 j 0 (hi 36 j 4)) 36 j 2 ((hi 36 j 2) + 1)) 36 j 3 0)))))) ∧ (x1 ≠ 0 → P 0 hi))))) :
    W1i mX9_obey [.inr (some (36, j))] hi hr P :=
  WPm.of rfl (show WP mX9_obey 0 [some (.inr (some (36, j)))] [] hi hr (zQ1i hr P) from
  WP.aload_n (pc2 := 1) (i := 0) rfl (by decide +kernel) rfl <|
  WP.getI (pc2 := 4) rfl (by decide +kernel) zc_9 zSh_36 (by decide) rfl lf_X9_21 rfl rfl <|
  WP.if_eq (pc2 := 7) (off := 10) (tgt := 14) rfl (by decide +kernel) (by decide) (fun h9 => have f10 := F.1 h9
  WP.iconst (pc2 := 15) (x := 0) rfl (by decide +kernel) (by decide) <|
  WP.zret (by decide +kernel) rfl (by decide) (fun hx => ⟨_, rfl, hx, rfl, f10⟩)) (fun h9 => have f11 := F.2 h9
  WP.aload_n (pc2 := 8) (i := 0) rfl (by decide +kernel) rfl <|
  WP.callV (y := mX9_obey) (index := 36) (pc2 := 11) (y' := mX9_halts) (vs := []) rfl (by decide +kernel) okX9_halts ⟨by decide, by decide⟩ ⟨lm_X9_36, ivX9_halts⟩ zSh_36 zc_9 (Nat.le_of_ble_eq_true rfl) ⟨rfl, rfl⟩ rfl (WP.c0i f11 (fun x1 _ f8 =>
  WP.if_eq (pc2 := 14) (off := 5) (tgt := 16) rfl (by decide +kernel) (by decide) (fun h5 => have f6 := f8.1 h5
  WP.aload_n (pc2 := 17) (i := 0) rfl (by decide +kernel) rfl <|
  WP.getI (pc2 := 20) rfl (by decide +kernel) zc_9 zSh_36 (by decide) rfl lf_X9_25 rfl rfl <|
  WP.iconst (pc2 := 21) (x := -1) rfl (by decide +kernel) (by decide) <|
  WP.icmp_eq (pc2 := 24) (off := 11) (tgt := 32) rfl (by decide +kernel) (by decide) (fun h2 => have f3 := f6.1 h2
  WP.aload_n (pc2 := 33) (i := 0) rfl (by decide +kernel) rfl <|
  WP.dup (pc2 := 34) rfl (by decide +kernel) <|
  WP.getI (pc2 := 37) rfl (by decide +kernel) zc_9 zSh_36 (by decide) rfl lf_X9_18 rfl rfl <|
  WP.iconst (pc2 := 38) (x := 1) rfl (by decide +kernel) (by decide) <|
  WP.iadd (pc2 := 39) rfl (by decide +kernel) f3.1 <|
  WP.putI (pc2 := 42) rfl (by decide +kernel) zc_9 zSh_36 (by decide) rfl lf_X9_18 rfl (z_int _) rfl <|
  WP.aload_n (pc2 := 43) (i := 0) rfl (by decide +kernel) rfl <|
  WP.iconst (pc2 := 44) (x := 0) rfl (by decide +kernel) (by decide) <|
  WP.putI (pc2 := 47) rfl (by decide +kernel) zc_9 zSh_36 (by decide) rfl lf_X9_21 rfl (z_bool (by decide)) rfl <|
  WP.iconst (pc2 := 48) (x := 1) rfl (by decide +kernel) (by decide) <|
  WP.zret (by decide +kernel) rfl (by decide) (fun hx => ⟨_, rfl, hx, rfl, f3.2⟩)) (fun h2 => have f4 := f6.2 h2
  WP.aload_n (pc2 := 25) (i := 0) rfl (by decide +kernel) rfl <|
  WP.aload_n (pc2 := 26) (i := 0) rfl (by decide +kernel) rfl <|
  WP.getI (pc2 := 29) rfl (by decide +kernel) zc_9 zSh_36 (by decide) rfl lf_X9_25 rfl rfl <|
  WP.putI (pc2 := 32) rfl (by decide +kernel) zc_9 zSh_36 (by decide) rfl lf_X9_9 rfl (z_int _) rfl <|
  WP.aload_n (pc2 := 33) (i := 0) rfl (by decide +kernel) rfl <|
  WP.dup (pc2 := 34) rfl (by decide +kernel) <|
  WP.getI (pc2 := 37) rfl (by decide +kernel) zc_9 zSh_36 (by decide) rfl lf_X9_18 rfl (zup_f _ _ _ _ _ _ (by decide)) <|
  WP.iconst (pc2 := 38) (x := 1) rfl (by decide +kernel) (by decide) <|
  WP.iadd (pc2 := 39) rfl (by decide +kernel) f4.1 <|
  WP.putI (pc2 := 42) rfl (by decide +kernel) zc_9 zSh_36 (by decide) rfl lf_X9_18 rfl (z_int _) rfl <|
  WP.aload_n (pc2 := 43) (i := 0) rfl (by decide +kernel) rfl <|
  WP.iconst (pc2 := 44) (x := 0) rfl (by decide +kernel) (by decide) <|
  WP.putI (pc2 := 47) rfl (by decide +kernel) zc_9 zSh_36 (by decide) rfl lf_X9_21 rfl (z_bool (by decide)) rfl <|
  WP.iconst (pc2 := 48) (x := 1) rfl (by decide +kernel) (by decide) <|
  WP.zret (by decide +kernel) rfl (by decide) (fun hx => ⟨_, rfl, hx, rfl, f4.2⟩))) (fun h5 => have f7 := f8.2 h5
  WP.iconst (pc2 := 15) (x := 0) rfl (by decide +kernel) (by decide) <|
  WP.zret (by decide +kernel) rfl (by decide) (fun hx => ⟨_, rfl, hx, rfl, f7⟩))))))
set_option maxRecDepth 100000 in
set_option maxHeartbeats 4000000 in
theorem GJ7_fill_d0a16_Open {hi : zI} {hr : zR} {P : zI → Prop} (l1 : Int) 
    (F : WP mJ7_fill_d0a16 6 [some (.inr (some (21, 0))), some (.lo l1), none, some (.inl 0), some (.inl 16)] [] hi hr (zQ1v hr P)) :
    W1v mJ7_fill_d0a16 [.inr (some (21, 0)), .lo l1] hi hr P :=
  WPm.of rfl (show WP mJ7_fill_d0a16 0 [some (.inr (some (21, 0))), some (.lo l1), none, none, none] [] hi hr (zQ1v hr P) from
  WP.iconst (pc2 := 1) (x := 0) rfl (by decide +kernel) (by decide) <|
  WP.istore_n (pc2 := 2) (i := 3) rfl (by decide +kernel) (by decide) <|
  WP.aload_n (pc2 := 3) (i := 0) rfl (by decide +kernel) rfl <|
  WP.alen (pc2 := 4) rfl (by decide +kernel) zSh_21 (by decide) (by decide) rfl <|
  WP.istore (pc2 := 6) (i := 4) rfl (by decide +kernel) (by decide) <|
  F)

set_option maxRecDepth 100000 in
set_option maxHeartbeats 4000000 in
theorem GJ7_fill_d0a16_Open_6 {hi : zI} {hr : zR} {P : zI → Prop} (l1 : Int) (a3 : Int) (a4 : Int) 
    (F : (a4 ≤ a3 → P hi) ∧ (a3 < a4 → ((0 ≤ a3 ∧ a3 < 16) ∧ ((zInR (a3 + 1)) ∧ (WP mJ7_fill_d0a16 6 [some (.inr (some (21, 0))), some (.lo l1), none, some (.inl (a3 + 1)), some (.inl a4)] [] (zup hi 21 0 a3 l1) hr (zQ1v hr P)))))) :
    WP mJ7_fill_d0a16 6 [some (.inr (some (21, 0))), some (.lo l1), none, some (.inl a3), some (.inl a4)] [] hi hr (zQ1v hr P) :=
  WP.iload_n (pc2 := 7) (i := 3) rfl (by decide +kernel) rfl <|
  WP.iload (pc2 := 9) (i := 4) rfl (by decide +kernel) rfl <|
  WP.icmp_ge (pc2 := 12) (off := 13) (tgt := 22) rfl (by decide +kernel) (by decide) (fun h1 => have f2 := F.1 h1
  WP.vret (by decide +kernel) rfl ⟨rfl, rfl, f2⟩) (fun h1 => have f3 := F.2 h1
  WP.aload_n (pc2 := 13) (i := 0) rfl (by decide +kernel) rfl <|
  WP.iload_n (pc2 := 14) (i := 3) rfl (by decide +kernel) rfl <|
  WP.lload_n (pc2 := 15) (i := 1) rfl (by decide +kernel) rfl rfl <|
  WP.lastore (pc2 := 16) rfl (by decide +kernel) zSh_21 rfl f3.1 <|
  WP.iinc (pc2 := 19) (i := 3) (d := 1) rfl (by decide +kernel) rfl f3.2.1 <|
  WP.goto (off := -13) (tgt := 6) (by decide +kernel) (by decide) <|
  f3.2.2)
set_option maxRecDepth 100000 in
set_option maxHeartbeats 4000000 in
theorem GJ7_fill_d0a16_Turns {hi : zI} {hr : zR} {P : zI → Prop} (l1 : Int) 
    (F : WP mJ7_fill_d0a16 6 [some (.inr (some (22, 0))), some (.lo l1), none, some (.inl 0), some (.inl 16)] [] hi hr (zQ1v hr P)) :
    W1v mJ7_fill_d0a16 [.inr (some (22, 0)), .lo l1] hi hr P :=
  WPm.of rfl (show WP mJ7_fill_d0a16 0 [some (.inr (some (22, 0))), some (.lo l1), none, none, none] [] hi hr (zQ1v hr P) from
  WP.iconst (pc2 := 1) (x := 0) rfl (by decide +kernel) (by decide) <|
  WP.istore_n (pc2 := 2) (i := 3) rfl (by decide +kernel) (by decide) <|
  WP.aload_n (pc2 := 3) (i := 0) rfl (by decide +kernel) rfl <|
  WP.alen (pc2 := 4) rfl (by decide +kernel) zSh_22 (by decide) (by decide) rfl <|
  WP.istore (pc2 := 6) (i := 4) rfl (by decide +kernel) (by decide) <|
  F)

set_option maxRecDepth 100000 in
set_option maxHeartbeats 4000000 in
theorem GJ7_fill_d0a16_Turns_6 {hi : zI} {hr : zR} {P : zI → Prop} (l1 : Int) (a3 : Int) (a4 : Int) 
    (F : (a4 ≤ a3 → P hi) ∧ (a3 < a4 → ((0 ≤ a3 ∧ a3 < 16) ∧ ((zInR (a3 + 1)) ∧ (WP mJ7_fill_d0a16 6 [some (.inr (some (22, 0))), some (.lo l1), none, some (.inl (a3 + 1)), some (.inl a4)] [] (zup hi 22 0 a3 l1) hr (zQ1v hr P)))))) :
    WP mJ7_fill_d0a16 6 [some (.inr (some (22, 0))), some (.lo l1), none, some (.inl a3), some (.inl a4)] [] hi hr (zQ1v hr P) :=
  WP.iload_n (pc2 := 7) (i := 3) rfl (by decide +kernel) rfl <|
  WP.iload (pc2 := 9) (i := 4) rfl (by decide +kernel) rfl <|
  WP.icmp_ge (pc2 := 12) (off := 13) (tgt := 22) rfl (by decide +kernel) (by decide) (fun h1 => have f2 := F.1 h1
  WP.vret (by decide +kernel) rfl ⟨rfl, rfl, f2⟩) (fun h1 => have f3 := F.2 h1
  WP.aload_n (pc2 := 13) (i := 0) rfl (by decide +kernel) rfl <|
  WP.iload_n (pc2 := 14) (i := 3) rfl (by decide +kernel) rfl <|
  WP.lload_n (pc2 := 15) (i := 1) rfl (by decide +kernel) rfl rfl <|
  WP.lastore (pc2 := 16) rfl (by decide +kernel) zSh_22 rfl f3.1 <|
  WP.iinc (pc2 := 19) (i := 3) (d := 1) rfl (by decide +kernel) rfl f3.2.1 <|
  WP.goto (off := -13) (tgt := 6) (by decide +kernel) (by decide) <|
  f3.2.2)
set_option maxRecDepth 100000 in
set_option maxHeartbeats 4000000 in
theorem GJ7_fill_d0a16_Held {hi : zI} {hr : zR} {P : zI → Prop} (ja : Int) (l1 : Int) 
    (F : WP mJ7_fill_d0a16 6 [some (.inr (some (23, ja))), some (.lo l1), none, some (.inl 0), some (.inl 16)] [] hi hr (zQ1v hr P)) :
    W1v mJ7_fill_d0a16 [.inr (some (23, ja)), .lo l1] hi hr P :=
  WPm.of rfl (show WP mJ7_fill_d0a16 0 [some (.inr (some (23, ja))), some (.lo l1), none, none, none] [] hi hr (zQ1v hr P) from
  WP.iconst (pc2 := 1) (x := 0) rfl (by decide +kernel) (by decide) <|
  WP.istore_n (pc2 := 2) (i := 3) rfl (by decide +kernel) (by decide) <|
  WP.aload_n (pc2 := 3) (i := 0) rfl (by decide +kernel) rfl <|
  WP.alen (pc2 := 4) rfl (by decide +kernel) zSh_23 (by decide) (by decide) rfl <|
  WP.istore (pc2 := 6) (i := 4) rfl (by decide +kernel) (by decide) <|
  F)

set_option maxRecDepth 100000 in
set_option maxHeartbeats 4000000 in
theorem GJ7_fill_d0a16_Held_6 {hi : zI} {hr : zR} {P : zI → Prop} (ja : Int) (l1 : Int) (a3 : Int) (a4 : Int) 
    (F : (a4 ≤ a3 → P hi) ∧ (a3 < a4 → ((0 ≤ a3 ∧ a3 < 16) ∧ ((zInR (a3 + 1)) ∧ (WP mJ7_fill_d0a16 6 [some (.inr (some (23, ja))), some (.lo l1), none, some (.inl (a3 + 1)), some (.inl a4)] [] (zup hi 23 ja a3 l1) hr (zQ1v hr P)))))) :
    WP mJ7_fill_d0a16 6 [some (.inr (some (23, ja))), some (.lo l1), none, some (.inl a3), some (.inl a4)] [] hi hr (zQ1v hr P) :=
  WP.iload_n (pc2 := 7) (i := 3) rfl (by decide +kernel) rfl <|
  WP.iload (pc2 := 9) (i := 4) rfl (by decide +kernel) rfl <|
  WP.icmp_ge (pc2 := 12) (off := 13) (tgt := 22) rfl (by decide +kernel) (by decide) (fun h1 => have f2 := F.1 h1
  WP.vret (by decide +kernel) rfl ⟨rfl, rfl, f2⟩) (fun h1 => have f3 := F.2 h1
  WP.aload_n (pc2 := 13) (i := 0) rfl (by decide +kernel) rfl <|
  WP.iload_n (pc2 := 14) (i := 3) rfl (by decide +kernel) rfl <|
  WP.lload_n (pc2 := 15) (i := 1) rfl (by decide +kernel) rfl rfl <|
  WP.lastore (pc2 := 16) rfl (by decide +kernel) zSh_23 rfl f3.1 <|
  WP.iinc (pc2 := 19) (i := 3) (d := 1) rfl (by decide +kernel) rfl f3.2.1 <|
  WP.goto (off := -13) (tgt := 6) (by decide +kernel) (by decide) <|
  f3.2.2)
set_option maxRecDepth 100000 in
set_option maxHeartbeats 4000000 in
theorem GJ7_fill_53178_FateRow {hi : zI} {hr : zR} {P : zI → Prop} (l1 : Int) 
    (F : WP mJ7_fill_53178 5 [some (.inr (some (8, 0))), some (.inl l1), some (.inl 0), some (.inl 64)] [] hi hr (zQ1v hr P)) :
    W1v mJ7_fill_53178 [.inr (some (8, 0)), .inl l1] hi hr P :=
  WPm.of rfl (show WP mJ7_fill_53178 0 [some (.inr (some (8, 0))), some (.inl l1), none, none] [] hi hr (zQ1v hr P) from
  WP.iconst (pc2 := 1) (x := 0) rfl (by decide +kernel) (by decide) <|
  WP.istore_n (pc2 := 2) (i := 2) rfl (by decide +kernel) (by decide) <|
  WP.aload_n (pc2 := 3) (i := 0) rfl (by decide +kernel) rfl <|
  WP.alen (pc2 := 4) rfl (by decide +kernel) zSh_8 (by decide) (by decide) rfl <|
  WP.istore_n (pc2 := 5) (i := 3) rfl (by decide +kernel) (by decide) <|
  F)

set_option maxRecDepth 100000 in
set_option maxHeartbeats 4000000 in
theorem GJ7_fill_53178_FateRow_5 {hi : zI} {hr : zR} {P : zI → Prop} (l1 : Int) (a2 : Int) (a3 : Int) 
    (F : (a3 ≤ a2 → P hi) ∧ (a2 < a3 → ((0 ≤ a2 ∧ a2 < 64) ∧ ((zInR (a2 + 1)) ∧ (WP mJ7_fill_53178 5 [some (.inr (some (8, 0))), some (.inl l1), some (.inl (a2 + 1)), some (.inl a3)] [] (zup hi 8 0 a2 l1) hr (zQ1v hr P)))))) :
    WP mJ7_fill_53178 5 [some (.inr (some (8, 0))), some (.inl l1), some (.inl a2), some (.inl a3)] [] hi hr (zQ1v hr P) :=
  WP.iload_n (pc2 := 6) (i := 2) rfl (by decide +kernel) rfl <|
  WP.iload_n (pc2 := 7) (i := 3) rfl (by decide +kernel) rfl <|
  WP.icmp_ge (pc2 := 10) (off := 13) (tgt := 20) rfl (by decide +kernel) (by decide) (fun h1 => have f2 := F.1 h1
  WP.vret (by decide +kernel) rfl ⟨rfl, rfl, f2⟩) (fun h1 => have f3 := F.2 h1
  WP.aload_n (pc2 := 11) (i := 0) rfl (by decide +kernel) rfl <|
  WP.iload_n (pc2 := 12) (i := 2) rfl (by decide +kernel) rfl <|
  WP.iload_n (pc2 := 13) (i := 1) rfl (by decide +kernel) rfl <|
  WP.iastore (pc2 := 14) rfl (by decide +kernel) zSh_8 rfl f3.1 <|
  WP.iinc (pc2 := 17) (i := 2) (d := 1) rfl (by decide +kernel) rfl f3.2.1 <|
  WP.goto (off := -12) (tgt := 5) (by decide +kernel) (by decide) <|
  f3.2.2)
set_option maxRecDepth 100000 in
set_option maxHeartbeats 4000000 in
theorem GJ7_fill_53178_Seen {hi : zI} {hr : zR} {P : zI → Prop} (l1 : Int) 
    (F : WP mJ7_fill_53178 5 [some (.inr (some (6, 0))), some (.inl l1), some (.inl 0), some (.inl 256)] [] hi hr (zQ1v hr P)) :
    W1v mJ7_fill_53178 [.inr (some (6, 0)), .inl l1] hi hr P :=
  WPm.of rfl (show WP mJ7_fill_53178 0 [some (.inr (some (6, 0))), some (.inl l1), none, none] [] hi hr (zQ1v hr P) from
  WP.iconst (pc2 := 1) (x := 0) rfl (by decide +kernel) (by decide) <|
  WP.istore_n (pc2 := 2) (i := 2) rfl (by decide +kernel) (by decide) <|
  WP.aload_n (pc2 := 3) (i := 0) rfl (by decide +kernel) rfl <|
  WP.alen (pc2 := 4) rfl (by decide +kernel) zSh_6 (by decide) (by decide) rfl <|
  WP.istore_n (pc2 := 5) (i := 3) rfl (by decide +kernel) (by decide) <|
  F)

set_option maxRecDepth 100000 in
set_option maxHeartbeats 4000000 in
theorem GJ7_fill_53178_Seen_5 {hi : zI} {hr : zR} {P : zI → Prop} (l1 : Int) (a2 : Int) (a3 : Int) 
    (F : (a3 ≤ a2 → P hi) ∧ (a2 < a3 → ((0 ≤ a2 ∧ a2 < 256) ∧ ((zInR (a2 + 1)) ∧ (WP mJ7_fill_53178 5 [some (.inr (some (6, 0))), some (.inl l1), some (.inl (a2 + 1)), some (.inl a3)] [] (zup hi 6 0 a2 l1) hr (zQ1v hr P)))))) :
    WP mJ7_fill_53178 5 [some (.inr (some (6, 0))), some (.inl l1), some (.inl a2), some (.inl a3)] [] hi hr (zQ1v hr P) :=
  WP.iload_n (pc2 := 6) (i := 2) rfl (by decide +kernel) rfl <|
  WP.iload_n (pc2 := 7) (i := 3) rfl (by decide +kernel) rfl <|
  WP.icmp_ge (pc2 := 10) (off := 13) (tgt := 20) rfl (by decide +kernel) (by decide) (fun h1 => have f2 := F.1 h1
  WP.vret (by decide +kernel) rfl ⟨rfl, rfl, f2⟩) (fun h1 => have f3 := F.2 h1
  WP.aload_n (pc2 := 11) (i := 0) rfl (by decide +kernel) rfl <|
  WP.iload_n (pc2 := 12) (i := 2) rfl (by decide +kernel) rfl <|
  WP.iload_n (pc2 := 13) (i := 1) rfl (by decide +kernel) rfl <|
  WP.iastore (pc2 := 14) rfl (by decide +kernel) zSh_6 rfl f3.1 <|
  WP.iinc (pc2 := 17) (i := 2) (d := 1) rfl (by decide +kernel) rfl f3.2.1 <|
  WP.goto (off := -12) (tgt := 5) (by decide +kernel) (by decide) <|
  f3.2.2)
