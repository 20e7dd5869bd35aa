set_option maxRecDepth 100000 in
set_option maxHeartbeats 4000000 in
theorem GX11_feed {hi : zI} {hr : zR} {P : Int → zI → Prop} (hR : RSc hr) (l1 : Int) (l2 : Int) (l3 : Int) (l4 : Int) (l5 : Int) 
    (F : W0i mX7_hasRoomForFive [.inr (some (2, 0))] hi hr (fun (x1 : Int) => (x1 ≠ 0 → (W1v mX7_addWord [.inr (some (2, 0)), .inl l1] hi hr (fun (hi2 : zI) => W1v mX7_addWord [.inr (some (2, 0)), .inl l2] hi2 hr (fun (hi3 : zI) => W1v mX7_addWord [.inr (some (2, 0)), .inl l3] hi3 hr (fun (hi4 : zI) => W1v mX7_addWord [.inr (some (2, 0)), .inl l4] hi4 hr (fun (hi5 : zI) => W1v mX7_addWord [.inr (some (2, 0)), .inl l5] hi5 hr (fun (hi6 : zI) => P (hi6 2 0 1) hi6))))))) ∧ (x1 = 0 → (P (-1) hi)))) :
    W1i mX11_feed [.inr (some (1, 0)), .inl l1, .inl l2, .inl l3, .inl l4, .inl l5] hi hr P :=
  WPm.of rfl (show WP mX11_feed 0 [some (.inr (some (1, 0))), some (.inl l1), some (.inl l2), some (.inl l3), some (.inl l4), some (.inl l5)] [] hi hr (zQ1i hr P) from
  WP.aload_n (pc2 := 1) (i := 0) rfl (by decide +kernel) rfl <|
  WP.getR (pc2 := 4) rfl (by decide +kernel) zc_11 zSh_1 (by decide) rfl lf_X11_12 rfl (rs_1_0 hR) <|
  WP.callV (y := mX11_feed) (index := 78) (pc2 := 7) (y' := mX7_hasRoomForFive) (vs := []) rfl (by decide +kernel) okX7_hasRoomForFive ⟨by decide, by decide⟩ ⟨lm_X11_78, ivX7_hasRoomForFive⟩ zSh_2 zc_7 (Nat.le_of_ble_eq_true rfl) ⟨rfl, rfl⟩ rfl (WP.c0i F (fun x1 _ f15 =>
  WP.if_ne (pc2 := 10) (off := 5) (tgt := 12) rfl (by decide +kernel) (by decide) (fun h12 => have f13 := f15.1 h12
  WP.aload_n (pc2 := 13) (i := 0) rfl (by decide +kernel) rfl <|
  WP.getR (pc2 := 16) rfl (by decide +kernel) zc_11 zSh_1 (by decide) rfl lf_X11_12 rfl (rs_1_0 hR) <|
  WP.iload_n (pc2 := 17) (i := 1) rfl (by decide +kernel) rfl <|
  WP.callV (y := mX11_feed) (index := 82) (pc2 := 20) (y' := mX7_addWord) (vs := [.inl l1]) rfl (by decide +kernel) okX7_addWord ⟨by decide, by decide⟩ ⟨lm_X11_82, ivX7_addWord⟩ zSh_2 zc_7 (Nat.le_of_ble_eq_true rfl) ⟨rfl, rfl⟩ rfl (WP.c1v f13 (fun hi2 f11 =>
  WP.aload_n (pc2 := 21) (i := 0) rfl (by decide +kernel) rfl <|
  WP.getR (pc2 := 24) rfl (by decide +kernel) zc_11 zSh_1 (by decide) rfl lf_X11_12 rfl (rs_1_0 hR) <|
  WP.iload_n (pc2 := 25) (i := 2) rfl (by decide +kernel) rfl <|
  WP.callV (y := mX11_feed) (index := 82) (pc2 := 28) (y' := mX7_addWord) (vs := [.inl l2]) rfl (by decide +kernel) okX7_addWord ⟨by decide, by decide⟩ ⟨lm_X11_82, ivX7_addWord⟩ zSh_2 zc_7 (Nat.le_of_ble_eq_true rfl) ⟨rfl, rfl⟩ rfl (WP.c1v f11 (fun hi3 f10 =>
  WP.aload_n (pc2 := 29) (i := 0) rfl (by decide +kernel) rfl <|
  WP.getR (pc2 := 32) rfl (by decide +kernel) zc_11 zSh_1 (by decide) rfl lf_X11_12 rfl (rs_1_0 hR) <|
  WP.iload_n (pc2 := 33) (i := 3) rfl (by decide +kernel) rfl <|
  WP.callV (y := mX11_feed) (index := 82) (pc2 := 36) (y' := mX7_addWord) (vs := [.inl l3]) rfl (by decide +kernel) okX7_addWord ⟨by decide, by decide⟩ ⟨lm_X11_82, ivX7_addWord⟩ zSh_2 zc_7 (Nat.le_of_ble_eq_true rfl) ⟨rfl, rfl⟩ rfl (WP.c1v f10 (fun hi4 f9 =>
  WP.aload_n (pc2 := 37) (i := 0) rfl (by decide +kernel) rfl <|
  WP.getR (pc2 := 40) rfl (by decide +kernel) zc_11 zSh_1 (by decide) rfl lf_X11_12 rfl (rs_1_0 hR) <|
  WP.iload (pc2 := 42) (i := 4) rfl (by decide +kernel) rfl <|
  WP.callV (y := mX11_feed) (index := 82) (pc2 := 45) (y' := mX7_addWord) (vs := [.inl l4]) rfl (by decide +kernel) okX7_addWord ⟨by decide, by decide⟩ ⟨lm_X11_82, ivX7_addWord⟩ zSh_2 zc_7 (Nat.le_of_ble_eq_true rfl) ⟨rfl, rfl⟩ rfl (WP.c1v f9 (fun hi5 f8 =>
  WP.aload_n (pc2 := 46) (i := 0) rfl (by decide +kernel) rfl <|
  WP.getR (pc2 := 49) rfl (by decide +kernel) zc_11 zSh_1 (by decide) rfl lf_X11_12 rfl (rs_1_0 hR) <|
  WP.iload (pc2 := 51) (i := 5) rfl (by decide +kernel) rfl <|
  WP.callV (y := mX11_feed) (index := 82) (pc2 := 54) (y' := mX7_addWord) (vs := [.inl l5]) rfl (by decide +kernel) okX7_addWord ⟨by decide, by decide⟩ ⟨lm_X11_82, ivX7_addWord⟩ zSh_2 zc_7 (Nat.le_of_ble_eq_true rfl) ⟨rfl, rfl⟩ rfl (WP.c1v f8 (fun hi6 f7 =>
  WP.aload_n (pc2 := 55) (i := 0) rfl (by decide +kernel) rfl <|
  WP.getR (pc2 := 58) rfl (by decide +kernel) zc_11 zSh_1 (by decide) rfl lf_X11_12 rfl (rs_1_0 hR) <|
  WP.getI (pc2 := 61) rfl (by decide +kernel) zc_7 zSh_2 (by decide) rfl lf_X11_85 rfl rfl <|
  WP.iret (by decide +kernel) rfl (fun hx => ⟨_, rfl, hx, rfl, f7⟩)))))))))))) (fun h12 => have f14 := f15.2 h12
  WP.iconst (pc2 := 11) (x := -1) rfl (by decide +kernel) (by decide) <|
  WP.iret (by decide +kernel) rfl (fun hx => ⟨_, rfl, hx, rfl, f14⟩)))))
set_option maxRecDepth 100000 in
set_option maxHeartbeats 4000000 in
theorem GX11_back {hi : zI} {hr : zR} {P : Int → zI → Prop} (hR : RSc hr) (l1 : Int) 
    (F : (l1 < 0 → (P (-1) hi)) ∧ (0 ≤ l1 → ((l1 ≤ hi 2 0 1 → ((zInR ((hi 2 0 1) - l1)) ∧ (P ((hi 2 0 1) - l1) (zup hi 2 0 1 ((hi 2 0 1) - l1))))) ∧ (hi 2 0 1 < l1 → (P (-1) hi))))) :
    W1i mX11_back [.inr (some (1, 0)), .inl l1] hi hr P :=
  WPm.of rfl (show WP mX11_back 0 [some (.inr (some (1, 0))), some (.inl l1)] [] hi hr (zQ1i hr P) from
  WP.iload_n (pc2 := 1) (i := 1) rfl (by decide +kernel) rfl <|
  WP.if_lt (pc2 := 4) (off := 14) (tgt := 15) rfl (by decide +kernel) (by decide) (fun h4 => have f5 := F.1 h4
  WP.iconst (pc2 := 16) (x := -1) rfl (by decide +kernel) (by decide) <|
  WP.iret (by decide +kernel) rfl (fun hx => ⟨_, rfl, hx, rfl, f5⟩)) (fun h4 => have f6 := F.2 h4
  WP.iload_n (pc2 := 5) (i := 1) rfl (by decide +kernel) rfl <|
  WP.aload_n (pc2 := 6) (i := 0) rfl (by decide +kernel) rfl <|
  WP.getR (pc2 := 9) rfl (by decide +kernel) zc_11 zSh_1 (by decide) rfl lf_X11_12 rfl (rs_1_0 hR) <|
  WP.getI (pc2 := 12) rfl (by decide +kernel) zc_7 zSh_2 (by decide) rfl lf_X11_85 rfl rfl <|
  WP.icmp_le (pc2 := 15) (off := 5) (tgt := 17) rfl (by decide +kernel) (by decide) (fun h1 => have f2 := f6.1 h1
  WP.aload_n (pc2 := 18) (i := 0) rfl (by decide +kernel) rfl <|
  WP.getR (pc2 := 21) rfl (by decide +kernel) zc_11 zSh_1 (by decide) rfl lf_X11_12 rfl (rs_1_0 hR) <|
  WP.dup (pc2 := 22) rfl (by decide +kernel) <|
  WP.getI (pc2 := 25) rfl (by decide +kernel) zc_7 zSh_2 (by decide) rfl lf_X11_85 rfl rfl <|
  WP.iload_n (pc2 := 26) (i := 1) rfl (by decide +kernel) rfl <|
  WP.isub (pc2 := 27) rfl (by decide +kernel) f2.1 <|
  WP.putI (pc2 := 30) rfl (by decide +kernel) zc_7 zSh_2 (by decide) rfl lf_X11_85 rfl (z_int _) rfl <|
  WP.aload_n (pc2 := 31) (i := 0) rfl (by decide +kernel) rfl <|
  WP.getR (pc2 := 34) rfl (by decide +kernel) zc_11 zSh_1 (by decide) rfl lf_X11_12 rfl (rs_1_0 hR) <|
  WP.getI (pc2 := 37) rfl (by decide +kernel) zc_7 zSh_2 (by decide) rfl lf_X11_85 rfl (zup_s _ _ _ _ _) <|
  WP.iret (by decide +kernel) rfl (fun hx => ⟨_, rfl, hx, rfl, f2.2⟩)) (fun h1 => have f3 := f6.2 h1
  WP.iconst (pc2 := 16) (x := -1) rfl (by decide +kernel) (by decide) <|
  WP.iret (by decide +kernel) rfl (fun hx => ⟨_, rfl, hx, rfl, f3⟩))))
set_option maxRecDepth 100000 in
set_option maxHeartbeats 4000000 in
theorem GX11_read {hi : zI} {hr : zR} {P : Int → zI → zR → Prop} (hR : RSc hr)  
    (F : ∃ j1 : Int, hr 1 0 7 = some (30, j1) ∧ (0 ≤ j1 ∧ j1 < 2) ∧ (W1i mX2_faultOf [.inr (some (4, 0)), .inr (some (2, 0)), .inr (some (30, j1))] hi hr (fun (x3 : Int) (hi4 : zI) => (x3 ≠ 0 → (P x3 (zup (zup hi4 1 0 8 (hi4 4 0 2)) 2 0 1 0) hr)) ∧ (x3 = 0 → (∃ j5 : Int, hr 1 0 6 = some (30, j5) ∧ (0 ≤ j5 ∧ j5 < 2) ∧ (W1v mX11_beginAnew [.inr (some (1, 0))] (zup (zup hi4 1 0 8 (hi4 4 0 2)) 2 0 1 0) (zupR (zupR hr 1 0 6 (some (30, j1))) 1 0 7 (some (30, j5))) (fun (hi7 : zI) => P x3 hi7 (zupR (zupR hr 1 0 6 (some (30, j1))) 1 0 7 (some (30, j5)))))))))) :
    W2i mX11_read [.inr (some (1, 0))] hi hr P :=
  WPm.of rfl (show WP mX11_read 0 [some (.inr (some (1, 0))), none, none] [] hi hr (zQ2i P) from
  WP.aload_n (pc2 := 1) (i := 0) rfl (by decide +kernel) rfl <|
  WP.getR (pc2 := 4) rfl (by decide +kernel) zc_11 zSh_1 (by decide) rfl lf_X11_19 rfl (rs_1_1 hR) <|
  WP.aload_n (pc2 := 5) (i := 0) rfl (by decide +kernel) rfl <|
  WP.getR (pc2 := 8) rfl (by decide +kernel) zc_11 zSh_1 (by decide) rfl lf_X11_12 rfl (rs_1_0 hR) <|
  WP.aload_n (pc2 := 9) (i := 0) rfl (by decide +kernel) rfl <|
  Exists.elim F (fun j1 f14 => have e2 := f14.1; have e2r := f14.2.1
  WP.getR (pc2 := 12) rfl (by decide +kernel) zc_11 zSh_1 (by decide) rfl lf_X11_57 rfl e2 <|
  WP.callV (y := mX11_read) (index := 88) (pc2 := 15) (y' := mX2_faultOf) (vs := [.inr (some (2, 0)), .inr (some (30, j1))]) rfl (by decide +kernel) okX2_faultOf ⟨by decide, by decide⟩ ⟨lm_X11_88, ivX2_faultOf⟩ zSh_4 zc_2 (Nat.le_of_ble_eq_true rfl) ⟨rfl, rfl⟩ rfl (WP.c1i f14.2.2 (fun x3 hi4 _ f13 =>
  WP.istore_n (pc2 := 16) (i := 1) rfl (by decide +kernel) (by decide) <|
  WP.aload_n (pc2 := 17) (i := 0) rfl (by decide +kernel) rfl <|
  WP.aload_n (pc2 := 18) (i := 0) rfl (by decide +kernel) rfl <|
  WP.getR (pc2 := 21) rfl (by decide +kernel) zc_11 zSh_1 (by decide) rfl lf_X11_19 rfl (rs_1_1 hR) <|
  WP.getI (pc2 := 24) rfl (by decide +kernel) zc_2 zSh_4 (by decide) rfl lf_X11_92 rfl rfl <|
  WP.putI (pc2 := 27) rfl (by decide +kernel) zc_11 zSh_1 (by decide) rfl lf_X11_60 rfl (z_int _) rfl <|
  WP.aload_n (pc2 := 28) (i := 0) rfl (by decide +kernel) rfl <|
  WP.getR (pc2 := 31) rfl (by decide +kernel) zc_11 zSh_1 (by decide) rfl lf_X11_12 rfl (rs_1_0 hR) <|
  WP.iconst (pc2 := 32) (x := 0) rfl (by decide +kernel) (by decide) <|
  WP.putI (pc2 := 35) rfl (by decide +kernel) zc_7 zSh_2 (by decide) rfl lf_X11_85 rfl (z_int _) rfl <|
  WP.iload_n (pc2 := 36) (i := 1) rfl (by decide +kernel) rfl <|
  WP.if_ne (pc2 := 39) (off := 25) (tgt := 61) rfl (by decide +kernel) (by decide) (fun h10 => have f11 := f13.1 h10
  WP.iload_n (pc2 := 62) (i := 1) rfl (by decide +kernel) rfl <|
  WP.iret (by decide +kernel) rfl (fun hx => ⟨_, rfl, hx, trivial, f11⟩)) (fun h10 => have f12 := f13.2 h10
  WP.aload_n (pc2 := 40) (i := 0) rfl (by decide +kernel) rfl <|
  Exists.elim f12 (fun j5 f9 => have e6 := f9.1; have e6r := f9.2.1
  WP.getR (pc2 := 43) rfl (by decide +kernel) zc_11 zSh_1 (by decide) rfl lf_X11_53 rfl e6 <|
  WP.astore_n (pc2 := 44) (i := 2) rfl (by decide +kernel) (by decide) <|
  WP.aload_n (pc2 := 45) (i := 0) rfl (by decide +kernel) rfl <|
  WP.aload_n (pc2 := 46) (i := 0) rfl (by decide +kernel) rfl <|
  WP.getR (pc2 := 49) rfl (by decide +kernel) zc_11 zSh_1 (by decide) rfl lf_X11_57 rfl e2 <|
  WP.putR (pc2 := 52) rfl (by decide +kernel) zc_11 zSh_1 (by decide) rfl lf_X11_53 rfl (Or.inl ⟨_, rfl⟩) rfl <|
  WP.aload_n (pc2 := 53) (i := 0) rfl (by decide +kernel) rfl <|
  WP.aload_n (pc2 := 54) (i := 2) rfl (by decide +kernel) rfl <|
  WP.putR (pc2 := 57) rfl (by decide +kernel) zc_11 zSh_1 (by decide) rfl lf_X11_57 rfl (Or.inl ⟨_, rfl⟩) rfl <|
  WP.aload_n (pc2 := 58) (i := 0) rfl (by decide +kernel) rfl <|
  WP.callV (y := mX11_read) (index := 75) (pc2 := 61) (y' := mX11_beginAnew) (vs := []) rfl (by decide +kernel) okX11_beginAnew ⟨by decide, by decide⟩ ⟨lm_X11_75, ivX11_beginAnew⟩ zSh_1 zc_11 (Nat.le_of_ble_eq_true rfl) ⟨rfl, rfl⟩ rfl (WP.c1v f9.2.2 (fun hi7 f8 =>
  WP.iload_n (pc2 := 62) (i := 1) rfl (by decide +kernel) rfl <|
  WP.iret (by decide +kernel) rfl (fun hx => ⟨_, rfl, hx, trivial, f8⟩)))))))))
set_option maxRecDepth 100000 in
set_option maxHeartbeats 4000000 in
theorem GX11_place {hi : zI} {hr : zR} {P : Int → Prop}  
    (F : P (hi 1 0 8)) :
    W0i mX11_place [.inr (some (1, 0))] hi hr P :=
  WPm.of rfl (show WP mX11_place 0 [some (.inr (some (1, 0)))] [] hi hr (zQ0i hi hr P) from
  WP.aload_n (pc2 := 1) (i := 0) rfl (by decide +kernel) rfl <|
  WP.getI (pc2 := 4) rfl (by decide +kernel) zc_11 zSh_1 (by decide) rfl lf_X11_60 rfl rfl <|
  WP.iret (by decide +kernel) rfl (fun hx => ⟨_, rfl, hx, rfl, rfl, F⟩))
set_option maxRecDepth 100000 in
set_option maxHeartbeats 4000000 in
theorem GX11_fates {hi : zI} {hr : zR} {P : Int → zI → Prop} (hR : RSc hr) (l1 : Int) 
    (F : W1i mX5_clearFates [.inr (some (7, 0)), .inl l1] hi hr (fun (x1 : Int) (hi2 : zI) => (x1 = 0 ∨ x1 = 1) ∧ P x1 hi2)) :
    W1i mX11_fates [.inr (some (1, 0)), .inl l1] hi hr P :=
  WPm.of rfl (show WP mX11_fates 0 [some (.inr (some (1, 0))), some (.inl l1)] [] hi hr (zQ1i hr P) from
  WP.aload_n (pc2 := 1) (i := 0) rfl (by decide +kernel) rfl <|
  WP.getR (pc2 := 4) rfl (by decide +kernel) zc_11 zSh_1 (by decide) rfl lf_X11_26 rfl (rs_1_2 hR) <|
  WP.iload_n (pc2 := 5) (i := 1) rfl (by decide +kernel) rfl <|
  WP.callV (y := mX11_fates) (index := 93) (pc2 := 8) (y' := mX5_clearFates) (vs := [.inl l1]) rfl (by decide +kernel) okX5_clearFates ⟨by decide, by decide⟩ ⟨lm_X11_93, ivX5_clearFates⟩ zSh_7 zc_5 (Nat.le_of_ble_eq_true rfl) ⟨rfl, rfl⟩ rfl (WP.c1i F (fun x1 hi2 _ f3 =>
  WP.zret (by decide +kernel) rfl f3.1 (fun hx => ⟨_, rfl, hx, rfl, f3.2⟩))))
set_option maxRecDepth 100000 in
set_option maxHeartbeats 4000000 in
theorem GX11_fate {hi : zI} {hr : zR} {P : Int → zI → Prop} (hR : RSc hr) (l1 : Int) (l2 : Int) 
    (F : W1i mX5_setFate [.inr (some (7, 0)), .inl l1, .inl l2] hi hr (fun (x1 : Int) (hi2 : zI) => (x1 = 0 ∨ x1 = 1) ∧ P x1 hi2)) :
    W1i mX11_fate [.inr (some (1, 0)), .inl l1, .inl l2] hi hr P :=
  WPm.of rfl (show WP mX11_fate 0 [some (.inr (some (1, 0))), some (.inl l1), some (.inl l2)] [] hi hr (zQ1i hr P) from
  WP.aload_n (pc2 := 1) (i := 0) rfl (by decide +kernel) rfl <|
  WP.getR (pc2 := 4) rfl (by decide +kernel) zc_11 zSh_1 (by decide) rfl lf_X11_26 rfl (rs_1_2 hR) <|
  WP.iload_n (pc2 := 5) (i := 1) rfl (by decide +kernel) rfl <|
  WP.iload_n (pc2 := 6) (i := 2) rfl (by decide +kernel) rfl <|
  WP.callV (y := mX11_fate) (index := 97) (pc2 := 9) (y' := mX5_setFate) (vs := [.inl l1, .inl l2]) rfl (by decide +kernel) okX5_setFate ⟨by decide, by decide⟩ ⟨lm_X11_97, ivX5_setFate⟩ zSh_7 zc_5 (Nat.le_of_ble_eq_true rfl) ⟨rfl, rfl⟩ rfl (WP.c1i F (fun x1 hi2 _ f3 =>
  WP.zret (by decide +kernel) rfl f3.1 (fun hx => ⟨_, rfl, hx, rfl, f3.2⟩))))
set_option maxRecDepth 100000 in
set_option maxHeartbeats 4000000 in
theorem GX11_task {hi : zI} {hr : zR} {P : Int → zI → Prop} (hR : RSc hr) (l1 : Int) (l2 : Int) 
    (F : ∃ j1 : Int, hr 1 0 6 = some (30, j1) ∧ (0 ≤ j1 ∧ j1 < 2) ∧ (W0i mX10_stationCell [.inr (some (30, j1)), .inl l1] hi hr (fun (x3 : Int) => (x3 = -1 → (P (-1) hi)) ∧ (x3 ≠ -1 → (W0i mX10_stationCell [.inr (some (30, j1)), .inl l2] hi hr (fun (x4 : Int) => (x4 = -1 → (P (-1) hi)) ∧ (x4 ≠ -1 → ((l1 ≠ l2 → (W1i mX8_add [.inr (some (11, 0)), .inl l1, .inl l2] hi hr (fun (x5 : Int) (hi6 : zI) => P x5 hi6))) ∧ (l1 = l2 → (P (-1) hi)))))))))) :
    W1i mX11_task [.inr (some (1, 0)), .inl l1, .inl l2] hi hr P :=
  WPm.of rfl (show WP mX11_task 0 [some (.inr (some (1, 0))), some (.inl l1), some (.inl l2)] [] hi hr (zQ1i hr P) from
  WP.aload_n (pc2 := 1) (i := 0) rfl (by decide +kernel) rfl <|
  Exists.elim F (fun j1 f19 => have e2 := f19.1; have e2r := f19.2.1
  WP.getR (pc2 := 4) rfl (by decide +kernel) zc_11 zSh_1 (by decide) rfl lf_X11_53 rfl e2 <|
  WP.iload_n (pc2 := 5) (i := 1) rfl (by decide +kernel) rfl <|
  WP.callV (y := mX11_task) (index := 101) (pc2 := 8) (y' := mX10_stationCell) (vs := [.inl l1]) rfl (by decide +kernel) okX10_stationCell ⟨by decide, by decide⟩ ⟨lm_X11_101, ivX10_stationCell⟩ zSh_30 zc_10 (Nat.le_of_ble_eq_true rfl) ⟨rfl, rfl⟩ rfl (WP.c0i f19.2.2 (fun x3 _ f18 =>
  WP.iconst (pc2 := 9) (x := -1) rfl (by decide +kernel) (by decide) <|
  WP.icmp_eq (pc2 := 12) (off := 20) (tgt := 29) rfl (by decide +kernel) (by decide) (fun h15 => have f16 := f18.1 h15
  WP.iconst (pc2 := 30) (x := -1) rfl (by decide +kernel) (by decide) <|
  WP.iret (by decide +kernel) rfl (fun hx => ⟨_, rfl, hx, rfl, f16⟩)) (fun h15 => have f17 := f18.2 h15
  WP.aload_n (pc2 := 13) (i := 0) rfl (by decide +kernel) rfl <|
  WP.getR (pc2 := 16) rfl (by decide +kernel) zc_11 zSh_1 (by decide) rfl lf_X11_53 rfl e2 <|
  WP.iload_n (pc2 := 17) (i := 2) rfl (by decide +kernel) rfl <|
  WP.callV (y := mX11_task) (index := 101) (pc2 := 20) (y' := mX10_stationCell) (vs := [.inl l2]) rfl (by decide +kernel) okX10_stationCell ⟨by decide, by decide⟩ ⟨lm_X11_101, ivX10_stationCell⟩ zSh_30 zc_10 (Nat.le_of_ble_eq_true rfl) ⟨rfl, rfl⟩ rfl (WP.c0i f17 (fun x4 _ f14 =>
  WP.iconst (pc2 := 21) (x := -1) rfl (by decide +kernel) (by decide) <|
  WP.icmp_eq (pc2 := 24) (off := 8) (tgt := 29) rfl (by decide +kernel) (by decide) (fun h11 => have f12 := f14.1 h11
  WP.iconst (pc2 := 30) (x := -1) rfl (by decide +kernel) (by decide) <|
  WP.iret (by decide +kernel) rfl (fun hx => ⟨_, rfl, hx, rfl, f12⟩)) (fun h11 => have f13 := f14.2 h11
  WP.iload_n (pc2 := 25) (i := 1) rfl (by decide +kernel) rfl <|
  WP.iload_n (pc2 := 26) (i := 2) rfl (by decide +kernel) rfl <|
  WP.icmp_ne (pc2 := 29) (off := 5) (tgt := 31) rfl (by decide +kernel) (by decide) (fun h8 => have f9 := f13.1 h8
  WP.aload_n (pc2 := 32) (i := 0) rfl (by decide +kernel) rfl <|
  WP.getR (pc2 := 35) rfl (by decide +kernel) zc_11 zSh_1 (by decide) rfl lf_X11_33 rfl (rs_1_3 hR) <|
  WP.iload_n (pc2 := 36) (i := 1) rfl (by decide +kernel) rfl <|
  WP.iload_n (pc2 := 37) (i := 2) rfl (by decide +kernel) rfl <|
  WP.callV (y := mX11_task) (index := 105) (pc2 := 40) (y' := mX8_add) (vs := [.inl l1, .inl l2]) rfl (by decide +kernel) okX8_add ⟨by decide, by decide⟩ ⟨lm_X11_105, ivX8_add⟩ zSh_11 zc_8 (Nat.le_of_ble_eq_true rfl) ⟨rfl, rfl⟩ rfl (WP.c1i f9 (fun x5 hi6 _ f7 =>
  WP.iret (by decide +kernel) rfl (fun hx => ⟨_, rfl, hx, rfl, f7⟩)))) (fun h8 => have f10 := f13.2 h8
  WP.iconst (pc2 := 30) (x := -1) rfl (by decide +kernel) (by decide) <|
  WP.iret (by decide +kernel) rfl (fun hx => ⟨_, rfl, hx, rfl, f10⟩))))))))))
set_option maxRecDepth 100000 in
set_option maxHeartbeats 4000000 in
theorem GX11_run {hi : zI} {hr : zR} {P : Int → zI → zR → Prop} (hR : RSc hr) (l1 : Int) 
    (F : (l1 < 1 → (P (-1) hi hr)) ∧ (1 ≤ l1 → ((50 < l1 → (P (-1) hi hr)) ∧ (l1 ≤ 50 → ((zInR ((hi 1 0 9) + l1)) ∧ (((hi 1 0 9) + l1 ≤ 600 → (WP mX11_run 35 [some (.inr (some (1, 0))), some (.inl l1), some (.inl (hi 11 0 7)), some (.inl 0)] [] hi hr (zQ2i P))) ∧ (600 < (hi 1 0 9) + l1 → (P (-1) hi hr)))))))) :
    W2i mX11_run [.inr (some (1, 0)), .inl l1] hi hr P :=
  WPm.of rfl (show WP mX11_run 0 [some (.inr (some (1, 0))), some (.inl l1), none, none] [] hi hr (zQ2i P) from
  WP.iload_n (pc2 := 1) (i := 1) rfl (by decide +kernel) rfl <|
  WP.iconst (pc2 := 2) (x := 1) rfl (by decide +kernel) (by decide) <|
  WP.icmp_lt (pc2 := 5) (off := 21) (tgt := 23) rfl (by decide +kernel) (by decide) (fun h7 => have f8 := F.1 h7
  WP.iconst (pc2 := 24) (x := -1) rfl (by decide +kernel) (by decide) <|
  WP.iret (by decide +kernel) rfl (fun hx => ⟨_, rfl, hx, trivial, f8⟩)) (fun h7 => have f9 := F.2 h7
  WP.iload_n (pc2 := 6) (i := 1) rfl (by decide +kernel) rfl <|
  WP.bipush (pc2 := 8) (x := 50) rfl (by decide +kernel) ⟨by decide +kernel, by decide⟩ <|
  WP.icmp_gt (pc2 := 11) (off := 15) (tgt := 23) rfl (by decide +kernel) (by decide) (fun h4 => have f5 := f9.1 h4
  WP.iconst (pc2 := 24) (x := -1) rfl (by decide +kernel) (by decide) <|
  WP.iret (by decide +kernel) rfl (fun hx => ⟨_, rfl, hx, trivial, f5⟩)) (fun h4 => have f6 := f9.2 h4
  WP.aload_n (pc2 := 12) (i := 0) rfl (by decide +kernel) rfl <|
  WP.getI (pc2 := 15) rfl (by decide +kernel) zc_11 zSh_1 (by decide) rfl lf_X11_109 rfl rfl <|
  WP.iload_n (pc2 := 16) (i := 1) rfl (by decide +kernel) rfl <|
  WP.iadd (pc2 := 17) rfl (by decide +kernel) f6.1 <|
  WP.sipush (pc2 := 20) (x := 600) rfl (by decide +kernel) ⟨by decide +kernel, by decide⟩ <|
  WP.icmp_le (pc2 := 23) (off := 5) (tgt := 25) rfl (by decide +kernel) (by decide) (fun h1 => have f2 := f6.2.1 h1
  WP.aload_n (pc2 := 26) (i := 0) rfl (by decide +kernel) rfl <|
  WP.getR (pc2 := 29) rfl (by decide +kernel) zc_11 zSh_1 (by decide) rfl lf_X11_33 rfl (rs_1_3 hR) <|
  WP.getI (pc2 := 32) rfl (by decide +kernel) zc_8 zSh_11 (by decide) rfl lf_X11_112 rfl rfl <|
  WP.istore_n (pc2 := 33) (i := 2) rfl (by decide +kernel) (by decide) <|
  WP.iconst (pc2 := 34) (x := 0) rfl (by decide +kernel) (by decide) <|
  WP.istore_n (pc2 := 35) (i := 3) rfl (by decide +kernel) (by decide) <|
  f2) (fun h1 => have f3 := f6.2.2 h1
  WP.iconst (pc2 := 24) (x := -1) rfl (by decide +kernel) (by decide) <|
  WP.iret (by decide +kernel) rfl (fun hx => ⟨_, rfl, hx, trivial, f3⟩)))))

set_option maxRecDepth 100000 in
set_option maxHeartbeats 4000000 in
theorem GX11_run_35 {hi : zI} {hr : zR} {P : Int → zI → zR → Prop} (hR : RSc hr) (l1 : Int) (a2 : Int) (a3 : Int) 
    (F : (l1 ≤ a3 → ((zInR ((hi 11 0 7) - a2)) ∧ (P ((hi 11 0 7) - a2) hi hr))) ∧ (a3 < l1 → (W2v mX11_takeMessages [.inr (some (1, 0))] hi hr (fun (hi10 : zI) (hr11 : zR) => RSc hr11 ∧ (W1v mX11_driveVehicles [.inr (some (1, 0))] hi10 hr11 (fun (hi12 : zI) => W1v mX1_noteFinished [.inr (some (17, 0)), .inr (some (11, 0)), .inl (hi12 1 0 9)] hi12 hr11 (fun (hi13 : zI) => ∃ j14 : Int, hr11 1 0 6 = some (30, j14) ∧ (0 ≤ j14 ∧ j14 < 2) ∧ (W2v mX1_handOut [.inr (some (17, 0)), .inr (some (30, j14)), .inr (some (11, 0)), .inl (hi13 1 0 9)] hi13 hr11 (fun (hi16 : zI) (hr17 : zR) => RSc hr17 ∧ (W1v mX1_sendGrants [.inr (some (17, 0)), .inr (some (7, 0)), .inl (hi16 1 0 9)] hi16 hr17 (fun (hi18 : zI) => (zInR ((hi18 1 0 9) + 1)) ∧ ((zInR (a3 + 1)) ∧ (WP mX11_run 35 [some (.inr (some (1, 0))), some (.inl l1), some (.inl a2), some (.inl (a3 + 1))] [] (zup hi18 1 0 9 ((hi18 1 0 9) + 1)) hr17 (zQ2i P)))))))))))))) :
    WP mX11_run 35 [some (.inr (some (1, 0))), some (.inl l1), some (.inl a2), some (.inl a3)] [] hi hr (zQ2i P) :=
  WP.iload_n (pc2 := 36) (i := 3) rfl (by decide +kernel) rfl <|
  WP.iload_n (pc2 := 37) (i := 1) rfl (by decide +kernel) rfl <|
  WP.icmp_ge (pc2 := 40) (off := 76) (tgt := 113) rfl (by decide +kernel) (by decide) (fun h25 => have f26 := F.1 h25
  WP.aload_n (pc2 := 114) (i := 0) rfl (by decide +kernel) rfl <|
  WP.getR (pc2 := 117) rfl (by decide +kernel) zc_11 zSh_1 (by decide) rfl lf_X11_33 rfl (rs_1_3 hR) <|
  WP.getI (pc2 := 120) rfl (by decide +kernel) zc_8 zSh_11 (by decide) rfl lf_X11_112 rfl rfl <|
  WP.iload_n (pc2 := 121) (i := 2) rfl (by decide +kernel) rfl <|
  WP.isub (pc2 := 122) rfl (by decide +kernel) f26.1 <|
  WP.iret (by decide +kernel) rfl (fun hx => ⟨_, rfl, hx, trivial, f26.2⟩)) (fun h25 => have f27 := F.2 h25
  WP.aload_n (pc2 := 41) (i := 0) rfl (by decide +kernel) rfl <|
  WP.callV (y := mX11_run) (index := 115) (pc2 := 44) (y' := mX11_takeMessages) (vs := []) rfl (by decide +kernel) okX11_takeMessages ⟨by decide, by decide⟩ ⟨lm_X11_115, ivX11_takeMessages⟩ zSh_1 zc_11 (Nat.le_of_ble_eq_true rfl) ⟨rfl, rfl⟩ rfl (WP.c2v f27 (fun hi10 hr11 f24 =>
  have hRxhr11 := f24.1
  WP.aload_n (pc2 := 45) (i := 0) rfl (by decide +kernel) rfl <|
  WP.callV (y := mX11_run) (index := 118) (pc2 := 48) (y' := mX11_driveVehicles) (vs := []) rfl (by decide +kernel) okX11_driveVehicles ⟨by decide, by decide⟩ ⟨lm_X11_118, ivX11_driveVehicles⟩ zSh_1 zc_11 (Nat.le_of_ble_eq_true rfl) ⟨rfl, rfl⟩ rfl (WP.c1v f24.2 (fun hi12 f23 =>
  WP.aload_n (pc2 := 49) (i := 0) rfl (by decide +kernel) rfl <|
  WP.getR (pc2 := 52) rfl (by decide +kernel) zc_11 zSh_1 (by decide) rfl lf_X11_40 rfl (rs_1_4 hRxhr11) <|
  WP.aload_n (pc2 := 53) (i := 0) rfl (by decide +kernel) rfl <|
  WP.getR (pc2 := 56) rfl (by decide +kernel) zc_11 zSh_1 (by decide) rfl lf_X11_33 rfl (rs_1_3 hRxhr11) <|
  WP.aload_n (pc2 := 57) (i := 0) rfl (by decide +kernel) rfl <|
  WP.getI (pc2 := 60) rfl (by decide +kernel) zc_11 zSh_1 (by decide) rfl lf_X11_109 rfl rfl <|
  WP.callV (y := mX11_run) (index := 121) (pc2 := 63) (y' := mX1_noteFinished) (vs := [.inr (some (11, 0)), .inl (hi12 1 0 9)]) rfl (by decide +kernel) okX1_noteFinished ⟨by decide, by decide⟩ ⟨lm_X11_121, ivX1_noteFinished⟩ zSh_17 zc_1 (Nat.le_of_ble_eq_true rfl) ⟨rfl, rfl⟩ rfl (WP.c1v f23 (fun hi13 f22 =>
  WP.aload_n (pc2 := 64) (i := 0) rfl (by decide +kernel) rfl <|
  WP.getR (pc2 := 67) rfl (by decide +kernel) zc_11 zSh_1 (by decide) rfl lf_X11_40 rfl (rs_1_4 hRxhr11) <|
  WP.aload_n (pc2 := 68) (i := 0) rfl (by decide +kernel) rfl <|
  Exists.elim f22 (fun j14 f21 => have e15 := f21.1; have e15r := f21.2.1
  WP.getR (pc2 := 71) rfl (by decide +kernel) zc_11 zSh_1 (by decide) rfl lf_X11_53 rfl e15 <|
  WP.aload_n (pc2 := 72) (i := 0) rfl (by decide +kernel) rfl <|
  WP.getR (pc2 := 75) rfl (by decide +kernel) zc_11 zSh_1 (by decide) rfl lf_X11_33 rfl (rs_1_3 hRxhr11) <|
  WP.aload_n (pc2 := 76) (i := 0) rfl (by decide +kernel) rfl <|
  WP.getI (pc2 := 79) rfl (by decide +kernel) zc_11 zSh_1 (by decide) rfl lf_X11_109 rfl rfl <|
  WP.callV (y := mX11_run) (index := 125) (pc2 := 82) (y' := mX1_handOut) (vs := [.inr (some (30, j14)), .inr (some (11, 0)), .inl (hi13 1 0 9)]) rfl (by decide +kernel) okX1_handOut ⟨by decide, by decide⟩ ⟨lm_X11_125, ivX1_handOut⟩ zSh_17 zc_1 (Nat.le_of_ble_eq_true rfl) ⟨rfl, rfl⟩ rfl (WP.c2v f21.2.2 (fun hi16 hr17 f20 =>
  have hRxhr17 := f20.1
  WP.aload_n (pc2 := 83) (i := 0) rfl (by decide +kernel) rfl <|
  WP.getR (pc2 := 86) rfl (by decide +kernel) zc_11 zSh_1 (by decide) rfl lf_X11_40 rfl (rs_1_4 hRxhr17) <|
  WP.aload_n (pc2 := 87) (i := 0) rfl (by decide +kernel) rfl <|
  WP.getR (pc2 := 90) rfl (by decide +kernel) zc_11 zSh_1 (by decide) rfl lf_X11_26 rfl (rs_1_2 hRxhr17) <|
  WP.aload_n (pc2 := 91) (i := 0) rfl (by decide +kernel) rfl <|
  WP.getI (pc2 := 94) rfl (by decide +kernel) zc_11 zSh_1 (by decide) rfl lf_X11_109 rfl rfl <|
  WP.callV (y := mX11_run) (index := 129) (pc2 := 97) (y' := mX1_sendGrants) (vs := [.inr (some (7, 0)), .inl (hi16 1 0 9)]) rfl (by decide +kernel) okX1_sendGrants ⟨by decide, by decide⟩ ⟨lm_X11_129, ivX1_sendGrants⟩ zSh_17 zc_1 (Nat.le_of_ble_eq_true rfl) ⟨rfl, rfl⟩ rfl (WP.c1v f20.2 (fun hi18 f19 =>
  WP.aload_n (pc2 := 98) (i := 0) rfl (by decide +kernel) rfl <|
  WP.dup (pc2 := 99) rfl (by decide +kernel) <|
  WP.getI (pc2 := 102) rfl (by decide +kernel) zc_11 zSh_1 (by decide) rfl lf_X11_109 rfl rfl <|
  WP.iconst (pc2 := 103) (x := 1) rfl (by decide +kernel) (by decide) <|
  WP.iadd (pc2 := 104) rfl (by decide +kernel) f19.1 <|
  WP.putI (pc2 := 107) rfl (by decide +kernel) zc_11 zSh_1 (by decide) rfl lf_X11_109 rfl (z_int _) rfl <|
  WP.iinc (pc2 := 110) (i := 3) (d := 1) rfl (by decide +kernel) rfl f19.2.1 <|
  WP.goto (off := -75) (tgt := 35) (by decide +kernel) (by decide) <|
  f19.2.2))))))))))))
set_option maxRecDepth 100000 in
set_option maxHeartbeats 4000000 in
theorem GX11_cell {hi : zI} {hr : zR} {P : Int → Prop} (hR : RSc hr) (l1 : Int) (l2 : Int) 
    (F : ∃ j1 : Int, hr 1 0 6 = some (30, j1) ∧ (0 ≤ j1 ∧ j1 < 2) ∧ (W0i mX10_hasCell [.inr (some (30, j1)), .inl l1] hi hr (fun (x3 : Int) => (x3 ≠ 0 → (((l2 < 0 ∨ 8 < l2) → (P (-1))) ∧ (l2 = 0 → (W0i mX10_kindOf [.inr (some (30, j1)), .inl l1] hi hr (fun (x4 : Int) => P x4))) ∧ (l2 = 1 → (W0i mX10_ordinalOf [.inr (some (30, j1)), .inl l1] hi hr (fun (x6 : Int) => P x6))) ∧ (l2 = 2 → (W0i mX11_vehicleIn [.inr (some (1, 0)), .inl l1] hi hr (fun (x8 : Int) => P x8))) ∧ (l2 = 3 → ((zInR (l2 - 3)) ∧ (W0i mX10_neighbour [.inr (some (30, j1)), .inl l1, .inl (l2 - 3)] hi hr (fun (x10 : Int) => P x10)))) ∧ (l2 = 4 → ((zInR (l2 - 3)) ∧ (W0i mX10_neighbour [.inr (some (30, j1)), .inl l1, .inl (l2 - 3)] hi hr (fun (x12 : Int) => P x12)))) ∧ (l2 = 5 → ((zInR (l2 - 3)) ∧ (W0i mX10_neighbour [.inr (some (30, j1)), .inl l1, .inl (l2 - 3)] hi hr (fun (x14 : Int) => P x14)))) ∧ (l2 = 6 → ((zInR (l2 - 3)) ∧ (W0i mX10_neighbour [.inr (some (30, j1)), .inl l1, .inl (l2 - 3)] hi hr (fun (x16 : Int) => P x16)))) ∧ (l2 = 7 → (W0i mX1_waitingAt [.inr (some (17, 0)), .inl l1] hi hr (fun (x18 : Int) => P x18))) ∧ (l2 = 8 → (W0i mX1_firstWaitingAt [.inr (some (17, 0)), .inl l1] hi hr (fun (x20 : Int) => P x20))))) ∧ (x3 = 0 → (P (-1)))))) :
    W0i mX11_cell [.inr (some (1, 0)), .inl l1, .inl l2] hi hr P :=
  WPm.of rfl (show WP mX11_cell 0 [some (.inr (some (1, 0))), some (.inl l1), some (.inl l2)] [] hi hr (zQ0i hi hr P) from
  WP.aload_n (pc2 := 1) (i := 0) rfl (by decide +kernel) rfl <|
  Exists.elim F (fun j1 f27 => have e2 := f27.1; have e2r := f27.2.1
  WP.getR (pc2 := 4) rfl (by decide +kernel) zc_11 zSh_1 (by decide) rfl lf_X11_53 rfl e2 <|
  WP.iload_n (pc2 := 5) (i := 1) rfl (by decide +kernel) rfl <|
  WP.callV (y := mX11_cell) (index := 133) (pc2 := 8) (y' := mX10_hasCell) (vs := [.inl l1]) rfl (by decide +kernel) okX10_hasCell ⟨by decide, by decide⟩ ⟨lm_X11_133, ivX10_hasCell⟩ zSh_30 zc_10 (Nat.le_of_ble_eq_true rfl) ⟨rfl, rfl⟩ rfl (WP.c0i f27.2.2 (fun x3 _ f26 =>
  WP.if_ne (pc2 := 11) (off := 5) (tgt := 13) rfl (by decide +kernel) (by decide) (fun h23 => have f24 := f26.1 h23
  WP.iload_n (pc2 := 14) (i := 2) rfl (by decide +kernel) rfl <|
  WP.tsw (dflt := 104) (lo := 0) (hi' := 8) (offs := #[50, 59, 68, 74, 74, 74, 74, 86, 95]) (len := 50) (by decide +kernel) (fun h22 => ⟨118, by decide, have f28 := f24.1 h22
  WP.iconst (pc2 := 119) (x := -1) rfl (by decide +kernel) (by decide) <|
  WP.iret (by decide +kernel) rfl (fun hx => ⟨_, rfl, hx, rfl, rfl, f28⟩)⟩) (fun h1 h2 => by
  rcases (show l2 = 0 ∨ l2 = 1 ∨ l2 = 2 ∨ l2 = 3 ∨ l2 = 4 ∨ l2 = 5 ∨ l2 = 6 ∨ l2 = 7 ∨ l2 = 8 by omega) with h22 | h22 | h22 | h22 | h22 | h22 | h22 | h22 | h22
  · exact ⟨_, 64, by rw [h22]; rfl, by decide, have f29 := f24.2.1 h22
    WP.aload_n (pc2 := 65) (i := 0) rfl (by decide +kernel) rfl <|
  WP.getR (pc2 := 68) rfl (by decide +kernel) zc_11 zSh_1 (by decide) rfl lf_X11_53 rfl e2 <|
  WP.iload_n (pc2 := 69) (i := 1) rfl (by decide +kernel) rfl <|
  WP.callV (y := mX11_cell) (index := 136) (pc2 := 72) (y' := mX10_kindOf) (vs := [.inl l1]) rfl (by decide +kernel) okX10_kindOf ⟨by decide, by decide⟩ ⟨lm_X11_136, ivX10_kindOf⟩ zSh_30 zc_10 (Nat.le_of_ble_eq_true rfl) ⟨rfl, rfl⟩ rfl (WP.c0i f29 (fun x4 _ f5 =>
  WP.iret (by decide +kernel) rfl (fun hx => ⟨_, rfl, hx, rfl, rfl, f5⟩)))⟩
  · exact ⟨_, 73, by rw [h22]; rfl, by decide, have f30 := f24.2.2.1 h22
    WP.aload_n (pc2 := 74) (i := 0) rfl (by decide +kernel) rfl <|
  WP.getR (pc2 := 77) rfl (by decide +kernel) zc_11 zSh_1 (by decide) rfl lf_X11_53 rfl e2 <|
  WP.iload_n (pc2 := 78) (i := 1) rfl (by decide +kernel) rfl <|
  WP.callV (y := mX11_cell) (index := 139) (pc2 := 81) (y' := mX10_ordinalOf) (vs := [.inl l1]) rfl (by decide +kernel) okX10_ordinalOf ⟨by decide, by decide⟩ ⟨lm_X11_139, ivX10_ordinalOf⟩ zSh_30 zc_10 (Nat.le_of_ble_eq_true rfl) ⟨rfl, rfl⟩ rfl (WP.c0i f30 (fun x6 _ f7 =>
  WP.iret (by decide +kernel) rfl (fun hx => ⟨_, rfl, hx, rfl, rfl, f7⟩)))⟩
  · exact ⟨_, 82, by rw [h22]; rfl, by decide, have f31 := f24.2.2.2.1 h22
    WP.aload_n (pc2 := 83) (i := 0) rfl (by decide +kernel) rfl <|
  WP.iload_n (pc2 := 84) (i := 1) rfl (by decide +kernel) rfl <|
  WP.callV (y := mX11_cell) (index := 142) (pc2 := 87) (y' := mX11_vehicleIn) (vs := [.inl l1]) rfl (by decide +kernel) okX11_vehicleIn ⟨by decide, by decide⟩ ⟨lm_X11_142, ivX11_vehicleIn⟩ zSh_1 zc_11 (Nat.le_of_ble_eq_true rfl) ⟨rfl, rfl⟩ rfl (WP.c0i f31 (fun x8 _ f9 =>
  WP.iret (by decide +kernel) rfl (fun hx => ⟨_, rfl, hx, rfl, rfl, f9⟩)))⟩
  · exact ⟨_, 88, by rw [h22]; rfl, by decide, have f32 := f24.2.2.2.2.1 h22
    WP.aload_n (pc2 := 89) (i := 0) rfl (by decide +kernel) rfl <|
  WP.getR (pc2 := 92) rfl (by decide +kernel) zc_11 zSh_1 (by decide) rfl lf_X11_53 rfl e2 <|
  WP.iload_n (pc2 := 93) (i := 1) rfl (by decide +kernel) rfl <|
  WP.iload_n (pc2 := 94) (i := 2) rfl (by decide +kernel) rfl <|
  WP.iconst (pc2 := 95) (x := 3) rfl (by decide +kernel) (by decide) <|
  WP.isub (pc2 := 96) rfl (by decide +kernel) f32.1 <|
  WP.callV (y := mX11_cell) (index := 145) (pc2 := 99) (y' := mX10_neighbour) (vs := [.inl l1, .inl (l2 - 3)]) rfl (by decide +kernel) okX10_neighbour ⟨by decide, by decide⟩ ⟨lm_X11_145, ivX10_neighbour⟩ zSh_30 zc_10 (Nat.le_of_ble_eq_true rfl) ⟨rfl, rfl⟩ rfl (WP.c0i f32.2 (fun x10 _ f11 =>
  WP.iret (by decide +kernel) rfl (fun hx => ⟨_, rfl, hx, rfl, rfl, f11⟩)))⟩
  · exact ⟨_, 88, by rw [h22]; rfl, by decide, have f33 := f24.2.2.2.2.2.1 h22
    WP.aload_n (pc2 := 89) (i := 0) rfl (by decide +kernel) rfl <|
  WP.getR (pc2 := 92) rfl (by decide +kernel) zc_11 zSh_1 (by decide) rfl lf_X11_53 rfl e2 <|
  WP.iload_n (pc2 := 93) (i := 1) rfl (by decide +kernel) rfl <|
  WP.iload_n (pc2 := 94) (i := 2) rfl (by decide +kernel) rfl <|
  WP.iconst (pc2 := 95) (x := 3) rfl (by decide +kernel) (by decide) <|
  WP.isub (pc2 := 96) rfl (by decide +kernel) f33.1 <|
  WP.callV (y := mX11_cell) (index := 145) (pc2 := 99) (y' := mX10_neighbour) (vs := [.inl l1, .inl (l2 - 3)]) rfl (by decide +kernel) okX10_neighbour ⟨by decide, by decide⟩ ⟨lm_X11_145, ivX10_neighbour⟩ zSh_30 zc_10 (Nat.le_of_ble_eq_true rfl) ⟨rfl, rfl⟩ rfl (WP.c0i f33.2 (fun x12 _ f13 =>
  WP.iret (by decide +kernel) rfl (fun hx => ⟨_, rfl, hx, rfl, rfl, f13⟩)))⟩
  · exact ⟨_, 88, by rw [h22]; rfl, by decide, have f34 := f24.2.2.2.2.2.2.1 h22
    WP.aload_n (pc2 := 89) (i := 0) rfl (by decide +kernel) rfl <|
  WP.getR (pc2 := 92) rfl (by decide +kernel) zc_11 zSh_1 (by decide) rfl lf_X11_53 rfl e2 <|
  WP.iload_n (pc2 := 93) (i := 1) rfl (by decide +kernel) rfl <|
  WP.iload_n (pc2 := 94) (i := 2) rfl (by decide +kernel) rfl <|
  WP.iconst (pc2 := 95) (x := 3) rfl (by decide +kernel) (by decide) <|
  WP.isub (pc2 := 96) rfl (by decide +kernel) f34.1 <|
  WP.callV (y := mX11_cell) (index := 145) (pc2 := 99) (y' := mX10_neighbour) (vs := [.inl l1, .inl (l2 - 3)]) rfl (by decide +kernel) okX10_neighbour ⟨by decide, by decide⟩ ⟨lm_X11_145, ivX10_neighbour⟩ zSh_30 zc_10 (Nat.le_of_ble_eq_true rfl) ⟨rfl, rfl⟩ rfl (WP.c0i f34.2 (fun x14 _ f15 =>
  WP.iret (by decide +kernel) rfl (fun hx => ⟨_, rfl, hx, rfl, rfl, f15⟩)))⟩
  · exact ⟨_, 88, by rw [h22]; rfl, by decide, have f35 := f24.2.2.2.2.2.2.2.1 h22
    WP.aload_n (pc2 := 89) (i := 0) rfl (by decide +kernel) rfl <|
  WP.getR (pc2 := 92) rfl (by decide +kernel) zc_11 zSh_1 (by decide) rfl lf_X11_53 rfl e2 <|
  WP.iload_n (pc2 := 93) (i := 1) rfl (by decide +kernel) rfl <|
  WP.iload_n (pc2 := 94) (i := 2) rfl (by decide +kernel) rfl <|
  WP.iconst (pc2 := 95) (x := 3) rfl (by decide +kernel) (by decide) <|
  WP.isub (pc2 := 96) rfl (by decide +kernel) f35.1 <|
  WP.callV (y := mX11_cell) (index := 145) (pc2 := 99) (y' := mX10_neighbour) (vs := [.inl l1, .inl (l2 - 3)]) rfl (by decide +kernel) okX10_neighbour ⟨by decide, by decide⟩ ⟨lm_X11_145, ivX10_neighbour⟩ zSh_30 zc_10 (Nat.le_of_ble_eq_true rfl) ⟨rfl, rfl⟩ rfl (WP.c0i f35.2 (fun x16 _ f17 =>
  WP.iret (by decide +kernel) rfl (fun hx => ⟨_, rfl, hx, rfl, rfl, f17⟩)))⟩
  · exact ⟨_, 100, by rw [h22]; rfl, by decide, have f36 := f24.2.2.2.2.2.2.2.2.1 h22
    WP.aload_n (pc2 := 101) (i := 0) rfl (by decide +kernel) rfl <|
  WP.getR (pc2 := 104) rfl (by decide +kernel) zc_11 zSh_1 (by decide) rfl lf_X11_40 rfl (rs_1_4 hR) <|
  WP.iload_n (pc2 := 105) (i := 1) rfl (by decide +kernel) rfl <|
  WP.callV (y := mX11_cell) (index := 148) (pc2 := 108) (y' := mX1_waitingAt) (vs := [.inl l1]) rfl (by decide +kernel) okX1_waitingAt ⟨by decide, by decide⟩ ⟨lm_X11_148, ivX1_waitingAt⟩ zSh_17 zc_1 (Nat.le_of_ble_eq_true rfl) ⟨rfl, rfl⟩ rfl (WP.c0i f36 (fun x18 _ f19 =>
  WP.iret (by decide +kernel) rfl (fun hx => ⟨_, rfl, hx, rfl, rfl, f19⟩)))⟩
  · exact ⟨_, 109, by rw [h22]; rfl, by decide, have f37 := f24.2.2.2.2.2.2.2.2.2 h22
    WP.aload_n (pc2 := 110) (i := 0) rfl (by decide +kernel) rfl <|
  WP.getR (pc2 := 113) rfl (by decide +kernel) zc_11 zSh_1 (by decide) rfl lf_X11_40 rfl (rs_1_4 hR) <|
  WP.iload_n (pc2 := 114) (i := 1) rfl (by decide +kernel) rfl <|
  WP.callV (y := mX11_cell) (index := 151) (pc2 := 117) (y' := mX1_firstWaitingAt) (vs := [.inl l1]) rfl (by decide +kernel) okX1_firstWaitingAt ⟨by decide, by decide⟩ ⟨lm_X11_151, ivX1_firstWaitingAt⟩ zSh_17 zc_1 (Nat.le_of_ble_eq_true rfl) ⟨rfl, rfl⟩ rfl (WP.c0i f37 (fun x20 _ f21 =>
  WP.iret (by decide +kernel) rfl (fun hx => ⟨_, rfl, hx, rfl, rfl, f21⟩)))⟩
  )) (fun h23 => have f25 := f26.2 h23
  WP.iconst (pc2 := 12) (x := -1) rfl (by decide +kernel) (by decide) <|
  WP.iret (by decide +kernel) rfl (fun hx => ⟨_, rfl, hx, rfl, rfl, f25⟩))))))
set_option maxRecDepth 100000 in
set_option maxHeartbeats 4000000 in
theorem GX11_vehicle {hi : zI} {hr : zR} {P : Int → Prop} (hR : RSc hr) (l1 : Int) (l2 : Int) 
    (F : W0r mX11_vehicleAt [.inr (some (1, 0)), .inl l1] hi hr (fun (o1 : Option (Nat × Int)) => W0r mX1_accountAt [.inr (some (17, 0)), .inl l1] hi hr (fun (o2 : Option (Nat × Int)) => (o1 = none → (P (-1))) ∧ (∀ w, o1 = some w → ∃ q3 : Int, w = (36, q3) ∧ ((o2 = none → (P (-1))) ∧ (∀ w, o2 = some w → ∃ q4 : Int, w = (24, q4) ∧ ((7 ≤ l2 → (W0i mX11_ofAccount [.inr (some (24, q4)), .inl l2] hi hr (fun (x5 : Int) => P x5))) ∧ (l2 < 7 → (W0i mX11_ofVehicle [.inr (some (36, q3)), .inr (some (24, q4)), .inl l2] hi hr (fun (x7 : Int) => P x7)))))))))) :
    W0i mX11_vehicle [.inr (some (1, 0)), .inl l1, .inl l2] hi hr P :=
  WPm.of rfl (show WP mX11_vehicle 0 [some (.inr (some (1, 0))), some (.inl l1), some (.inl l2), none, none] [] hi hr (zQ0i hi hr P) from
  WP.aload_n (pc2 := 1) (i := 0) rfl (by decide +kernel) rfl <|
  WP.iload_n (pc2 := 2) (i := 1) rfl (by decide +kernel) rfl <|
  WP.callV (y := mX11_vehicle) (index := 154) (pc2 := 5) (y' := mX11_vehicleAt) (vs := [.inl l1]) rfl (by decide +kernel) okX11_vehicleAt ⟨by decide, by decide⟩ ⟨lm_X11_154, ivX11_vehicleAt⟩ zSh_1 zc_11 (Nat.le_of_ble_eq_true rfl) ⟨rfl, rfl⟩ rfl (WP.c0r F (fun o1 f21 =>
  WP.astore_n (pc2 := 6) (i := 3) rfl (by decide +kernel) (by decide) <|
  WP.aload_n (pc2 := 7) (i := 0) rfl (by decide +kernel) rfl <|
  WP.getR (pc2 := 10) rfl (by decide +kernel) zc_11 zSh_1 (by decide) rfl lf_X11_40 rfl (rs_1_4 hR) <|
  WP.iload_n (pc2 := 11) (i := 1) rfl (by decide +kernel) rfl <|
  WP.callV (y := mX11_vehicle) (index := 158) (pc2 := 14) (y' := mX1_accountAt) (vs := [.inl l1]) rfl (by decide +kernel) okX1_accountAt ⟨by decide, by decide⟩ ⟨lm_X11_158, ivX1_accountAt⟩ zSh_17 zc_1 (Nat.le_of_ble_eq_true rfl) ⟨rfl, rfl⟩ rfl (WP.c0r f21 (fun o2 f20 =>
  WP.astore (pc2 := 16) (i := 4) rfl (by decide +kernel) (by decide) <|
  WP.aload_n (pc2 := 17) (i := 3) rfl (by decide +kernel) rfl <|
  WP.ifnull (pc2 := 20) (off := 8) (tgt := 25) rfl (by decide +kernel) (by decide) (fun e19 => have f16 := f20.1 e19
  by subst e19; exact WP.iconst (pc2 := 26) (x := -1) rfl (by decide +kernel) (by decide) <|
  WP.iret (by decide +kernel) rfl (fun hx => ⟨_, rfl, hx, rfl, rfl, f16⟩)) (fun w18 e19 => Exists.elim (f20.2 w18 e19) (fun q3 f17x => by
  obtain ⟨rfl, f17⟩ := f17x
  subst e19
  exact WP.aload (pc2 := 22) (i := 4) rfl (by decide +kernel) rfl <|
  WP.ifnonnull (pc2 := 25) (off := 5) (tgt := 27) rfl (by decide +kernel) (by decide) (fun w14 e15 => Exists.elim (f17.2 w14 e15) (fun q4 f13x => by
  obtain ⟨rfl, f13⟩ := f13x
  subst e15
  exact WP.iload_n (pc2 := 28) (i := 2) rfl (by decide +kernel) rfl <|
  WP.bipush (pc2 := 30) (x := 7) rfl (by decide +kernel) ⟨by decide +kernel, by decide⟩ <|
  WP.icmp_ge (pc2 := 33) (off := 13) (tgt := 43) rfl (by decide +kernel) (by decide) (fun h9 => have f10 := f13.1 h9
  WP.aload (pc2 := 45) (i := 4) rfl (by decide +kernel) rfl <|
  WP.iload_n (pc2 := 46) (i := 2) rfl (by decide +kernel) rfl <|
  WP.callS (y := mX11_vehicle) (index := 166) (pc2 := 49) (y' := mX11_ofAccount) (vs := [.inr (some (24, q4)), .inl l2]) rfl (by decide +kernel) okX11_ofAccount ⟨by decide, by decide⟩ ⟨lm_X11_166, ivX11_ofAccount⟩ (Nat.le_of_ble_eq_true rfl) ⟨rfl, rfl⟩ rfl (WP.c0i f10 (fun x5 _ f6 =>
  WP.iret (by decide +kernel) rfl (fun hx => ⟨_, rfl, hx, rfl, rfl, f6⟩)))) (fun h9 => have f11 := f13.2 h9
  WP.aload_n (pc2 := 34) (i := 3) rfl (by decide +kernel) rfl <|
  WP.aload (pc2 := 36) (i := 4) rfl (by decide +kernel) rfl <|
  WP.iload_n (pc2 := 37) (i := 2) rfl (by decide +kernel) rfl <|
  WP.callS (y := mX11_vehicle) (index := 162) (pc2 := 40) (y' := mX11_ofVehicle) (vs := [.inr (some (36, q3)), .inr (some (24, q4)), .inl l2]) rfl (by decide +kernel) okX11_ofVehicle ⟨by decide, by decide⟩ ⟨lm_X11_162, ivX11_ofVehicle⟩ (Nat.le_of_ble_eq_true rfl) ⟨rfl, rfl⟩ rfl (WP.c0i f11 (fun x7 _ f8 =>
  WP.goto (off := 9) (tgt := 49) (by decide +kernel) (by decide) <|
  WP.iret (by decide +kernel) rfl (fun hx => ⟨_, rfl, hx, rfl, rfl, f8⟩)))))) (fun e15 => have f12 := f17.1 e15
  by subst e15; exact WP.iconst (pc2 := 26) (x := -1) rfl (by decide +kernel) (by decide) <|
  WP.iret (by decide +kernel) rfl (fun hx => ⟨_, rfl, hx, rfl, rfl, f12⟩)))))))))
set_option maxRecDepth 100000 in
set_option maxHeartbeats 4000000 in
theorem GX11_trip {hi : zI} {hr : zR} {P : Int → Prop} (hR : RSc hr) (l1 : Int) (l2 : Int) 
    (F : W0r mX1_accountAt [.inr (some (17, 0)), .inl l1] hi hr (fun (o1 : Option (Nat × Int)) => (o1 = none → (P (-1))) ∧ (∀ w, o1 = some w → ∃ q2 : Int, w = (24, q2) ∧ ((0 ≤ l2 → ((0 ≤ q2 ∧ q2 < 6) ∧ (W0i mX6_cellAt [.inr (some (25, q2)), .inl l2] hi hr (fun (x3 : Int) => P x3)))) ∧ (l2 < 0 → (P (-1))))))) :
    W0i mX11_trip [.inr (some (1, 0)), .inl l1, .inl l2] hi hr P :=
  WPm.of rfl (show WP mX11_trip 0 [some (.inr (some (1, 0))), some (.inl l1), some (.inl l2), none] [] hi hr (zQ0i hi hr P) from
  WP.aload_n (pc2 := 1) (i := 0) rfl (by decide +kernel) rfl <|
  WP.getR (pc2 := 4) rfl (by decide +kernel) zc_11 zSh_1 (by decide) rfl lf_X11_40 rfl (rs_1_4 hR) <|
  WP.iload_n (pc2 := 5) (i := 1) rfl (by decide +kernel) rfl <|
  WP.callV (y := mX11_trip) (index := 158) (pc2 := 8) (y' := mX1_accountAt) (vs := [.inl l1]) rfl (by decide +kernel) okX1_accountAt ⟨by decide, by decide⟩ ⟨lm_X11_158, ivX1_accountAt⟩ zSh_17 zc_1 (Nat.le_of_ble_eq_true rfl) ⟨rfl, rfl⟩ rfl (WP.c0r F (fun o1 f12 =>
  WP.astore_n (pc2 := 9) (i := 3) rfl (by decide +kernel) (by decide) <|
  WP.aload_n (pc2 := 10) (i := 3) rfl (by decide +kernel) rfl <|
  WP.ifnull (pc2 := 13) (off := 7) (tgt := 17) rfl (by decide +kernel) (by decide) (fun e11 => have f8 := f12.1 e11
  by subst e11; exact WP.iconst (pc2 := 18) (x := -1) rfl (by decide +kernel) (by decide) <|
  WP.iret (by decide +kernel) rfl (fun hx => ⟨_, rfl, hx, rfl, rfl, f8⟩)) (fun w10 e11 => Exists.elim (f12.2 w10 e11) (fun q2 f9x => by
  obtain ⟨rfl, f9⟩ := f9x
  subst e11
  exact WP.iload_n (pc2 := 14) (i := 2) rfl (by decide +kernel) rfl <|
  WP.if_ge (pc2 := 17) (off := 5) (tgt := 19) rfl (by decide +kernel) (by decide) (fun h5 => have f6 := f9.1 h5
  WP.aload_n (pc2 := 20) (i := 3) rfl (by decide +kernel) rfl <|
  WP.getR (pc2 := 23) rfl (by decide +kernel) zc_0 zSh_24 (by decide) rfl lf_X11_170 rfl (rs_24_0 hR q2 f6.1) <|
  WP.iload_n (pc2 := 24) (i := 2) rfl (by decide +kernel) rfl <|
  WP.callV (y := mX11_trip) (index := 176) (pc2 := 27) (y' := mX6_cellAt) (vs := [.inl l2]) rfl (by decide +kernel) okX6_cellAt ⟨by decide, by decide⟩ ⟨lm_X11_176, ivX6_cellAt⟩ zSh_25 zc_6 (Nat.le_of_ble_eq_true rfl) ⟨rfl, rfl⟩ rfl (WP.c0i f6.2 (fun x3 _ f4 =>
  WP.iret (by decide +kernel) rfl (fun hx => ⟨_, rfl, hx, rfl, rfl, f4⟩)))) (fun h5 => have f7 := f9.2 h5
  WP.iconst (pc2 := 18) (x := -1) rfl (by decide +kernel) (by decide) <|
  WP.iret (by decide +kernel) rfl (fun hx => ⟨_, rfl, hx, rfl, rfl, f7⟩)))))))
set_option maxRecDepth 100000 in
set_option maxHeartbeats 4000000 in
theorem GX11_plan {hi : zI} {hr : zR} {P : Int → Prop} (hR : RSc hr) (l1 : Int) (l2 : Int) (l3 : Int) 
    (F : W0r mX1_accountAt [.inr (some (17, 0)), .inl l1] hi hr (fun (o1 : Option (Nat × Int)) => (o1 = none → (P (-1))) ∧ (∀ w, o1 = some w → ∃ q2 : Int, w = (24, q2) ∧ ((hi 24 q2 1 ≠ 0 → (((l3 < 0 ∨ 3 < l3) → (P (-1))) ∧ (l3 = 0 → ((0 ≤ q2 ∧ q2 < 6) ∧ (P (hi 25 q2 3)))) ∧ (l3 = 1 → ((0 ≤ q2 ∧ q2 < 6) ∧ (W0i mX6_lastMoment [.inr (some (25, q2))] hi hr (fun (x3 : Int) => P x3)))) ∧ (l3 = 2 → ((0 ≤ q2 ∧ q2 < 6) ∧ (W0i mX6_cellOfAct [.inr (some (25, q2)), .inl l2] hi hr (fun (x5 : Int) => P x5)))) ∧ (l3 = 3 → ((0 ≤ q2 ∧ q2 < 6) ∧ (W0i mX6_momentOfAct [.inr (some (25, q2)), .inl l2] hi hr (fun (x7 : Int) => P x7)))))) ∧ (hi 24 q2 1 = 0 → (P (-1))))))) :
    W0i mX11_plan [.inr (some (1, 0)), .inl l1, .inl l2, .inl l3] hi hr P :=
  WPm.of rfl (show WP mX11_plan 0 [some (.inr (some (1, 0))), some (.inl l1), some (.inl l2), some (.inl l3), none] [] hi hr (zQ0i hi hr P) from
  WP.aload_n (pc2 := 1) (i := 0) rfl (by decide +kernel) rfl <|
  WP.getR (pc2 := 4) rfl (by decide +kernel) zc_11 zSh_1 (by decide) rfl lf_X11_40 rfl (rs_1_4 hR) <|
  WP.iload_n (pc2 := 5) (i := 1) rfl (by decide +kernel) rfl <|
  WP.callV (y := mX11_plan) (index := 158) (pc2 := 8) (y' := mX1_accountAt) (vs := [.inl l1]) rfl (by decide +kernel) okX1_accountAt ⟨by decide, by decide⟩ ⟨lm_X11_158, ivX1_accountAt⟩ zSh_17 zc_1 (Nat.le_of_ble_eq_true rfl) ⟨rfl, rfl⟩ rfl (WP.c0r F (fun o1 f17 =>
  WP.astore (pc2 := 10) (i := 4) rfl (by decide +kernel) (by decide) <|
  WP.aload (pc2 := 12) (i := 4) rfl (by decide +kernel) rfl <|
  WP.ifnull (pc2 := 15) (off := 11) (tgt := 23) rfl (by decide +kernel) (by decide) (fun e16 => have f13 := f17.1 e16
  by subst e16; exact WP.iconst (pc2 := 24) (x := -1) rfl (by decide +kernel) (by decide) <|
  WP.iret (by decide +kernel) rfl (fun hx => ⟨_, rfl, hx, rfl, rfl, f13⟩)) (fun w15 e16 => Exists.elim (f17.2 w15 e16) (fun q2 f14x => by
  obtain ⟨rfl, f14⟩ := f14x
  subst e16
  exact WP.aload (pc2 := 17) (i := 4) rfl (by decide +kernel) rfl <|
  WP.getI (pc2 := 20) rfl (by decide +kernel) zc_0 zSh_24 (by decide) rfl lf_X11_181 rfl rfl <|
  WP.if_ne (pc2 := 23) (off := 5) (tgt := 25) rfl (by decide +kernel) (by decide) (fun h10 => have f11 := f14.1 h10
  WP.iload_n (pc2 := 26) (i := 3) rfl (by decide +kernel) rfl <|
  WP.tsw (dflt := 68) (lo := 0) (hi' := 3) (offs := #[30, 39, 48, 58]) (len := 30) (by decide +kernel) (fun h9 => ⟨94, by decide, have f18 := f11.1 h9
  WP.iconst (pc2 := 95) (x := -1) rfl (by decide +kernel) (by decide) <|
  WP.iret (by decide +kernel) rfl (fun hx => ⟨_, rfl, hx, rfl, rfl, f18⟩)⟩) (fun h1 h2 => by
  rcases (show l3 = 0 ∨ l3 = 1 ∨ l3 = 2 ∨ l3 = 3 by omega) with h9 | h9 | h9 | h9
  · exact ⟨_, 56, by rw [h9]; rfl, by decide, have f19 := f11.2.1 h9
    WP.aload (pc2 := 58) (i := 4) rfl (by decide +kernel) rfl <|
  WP.getR (pc2 := 61) rfl (by decide +kernel) zc_0 zSh_24 (by decide) rfl lf_X11_170 rfl (rs_24_0 hR q2 f19.1) <|
  WP.getI (pc2 := 64) rfl (by decide +kernel) zc_6 zSh_25 (by decide) rfl lf_X11_184 rfl rfl <|
  WP.iret (by decide +kernel) rfl (fun hx => ⟨_, rfl, hx, rfl, rfl, f19.2⟩)⟩
  · exact ⟨_, 65, by rw [h9]; rfl, by decide, have f20 := f11.2.2.1 h9
    WP.aload (pc2 := 67) (i := 4) rfl (by decide +kernel) rfl <|
  WP.getR (pc2 := 70) rfl (by decide +kernel) zc_0 zSh_24 (by decide) rfl lf_X11_170 rfl (rs_24_0 hR q2 f20.1) <|
  WP.callV (y := mX11_plan) (index := 187) (pc2 := 73) (y' := mX6_lastMoment) (vs := []) rfl (by decide +kernel) okX6_lastMoment ⟨by decide, by decide⟩ ⟨lm_X11_187, ivX6_lastMoment⟩ zSh_25 zc_6 (Nat.le_of_ble_eq_true rfl) ⟨rfl, rfl⟩ rfl (WP.c0i f20.2 (fun x3 _ f4 =>
  WP.iret (by decide +kernel) rfl (fun hx => ⟨_, rfl, hx, rfl, rfl, f4⟩)))⟩
  · exact ⟨_, 74, by rw [h9]; rfl, by decide, have f21 := f11.2.2.2.1 h9
    WP.aload (pc2 := 76) (i := 4) rfl (by decide +kernel) rfl <|
  WP.getR (pc2 := 79) rfl (by decide +kernel) zc_0 zSh_24 (by decide) rfl lf_X11_170 rfl (rs_24_0 hR q2 f21.1) <|
  WP.iload_n (pc2 := 80) (i := 2) rfl (by decide +kernel) rfl <|
  WP.callV (y := mX11_plan) (index := 191) (pc2 := 83) (y' := mX6_cellOfAct) (vs := [.inl l2]) rfl (by decide +kernel) okX6_cellOfAct ⟨by decide, by decide⟩ ⟨lm_X11_191, ivX6_cellOfAct⟩ zSh_25 zc_6 (Nat.le_of_ble_eq_true rfl) ⟨rfl, rfl⟩ rfl (WP.c0i f21.2 (fun x5 _ f6 =>
  WP.iret (by decide +kernel) rfl (fun hx => ⟨_, rfl, hx, rfl, rfl, f6⟩)))⟩
  · exact ⟨_, 84, by rw [h9]; rfl, by decide, have f22 := f11.2.2.2.2 h9
    WP.aload (pc2 := 86) (i := 4) rfl (by decide +kernel) rfl <|
  WP.getR (pc2 := 89) rfl (by decide +kernel) zc_0 zSh_24 (by decide) rfl lf_X11_170 rfl (rs_24_0 hR q2 f22.1) <|
  WP.iload_n (pc2 := 90) (i := 2) rfl (by decide +kernel) rfl <|
  WP.callV (y := mX11_plan) (index := 194) (pc2 := 93) (y' := mX6_momentOfAct) (vs := [.inl l2]) rfl (by decide +kernel) okX6_momentOfAct ⟨by decide, by decide⟩ ⟨lm_X11_194, ivX6_momentOfAct⟩ zSh_25 zc_6 (Nat.le_of_ble_eq_true rfl) ⟨rfl, rfl⟩ rfl (WP.c0i f22.2 (fun x7 _ f8 =>
  WP.iret (by decide +kernel) rfl (fun hx => ⟨_, rfl, hx, rfl, rfl, f8⟩)))⟩
  )) (fun h10 => have f12 := f14.2 h10
  WP.iconst (pc2 := 24) (x := -1) rfl (by decide +kernel) (by decide) <|
  WP.iret (by decide +kernel) rfl (fun hx => ⟨_, rfl, hx, rfl, rfl, f12⟩)))))))
set_option maxRecDepth 100000 in
set_option maxHeartbeats 4000000 in
theorem GX11_told {hi : zI} {hr : zR} {P : Int → Prop} (hR : RSc hr) (l1 : Int) (l2 : Int) 
    (F : W0i mX8_answer [.inr (some (11, 0)), .inl l1, .inl l2] hi hr (fun (x1 : Int) => P x1)) :
    W0i mX11_told [.inr (some (1, 0)), .inl l1, .inl l2] hi hr P :=
  WPm.of rfl (show WP mX11_told 0 [some (.inr (some (1, 0))), some (.inl l1), some (.inl l2)] [] hi hr (zQ0i hi hr P) from
  WP.aload_n (pc2 := 1) (i := 0) rfl (by decide +kernel) rfl <|
  WP.getR (pc2 := 4) rfl (by decide +kernel) zc_11 zSh_1 (by decide) rfl lf_X11_33 rfl (rs_1_3 hR) <|
  WP.iload_n (pc2 := 5) (i := 1) rfl (by decide +kernel) rfl <|
  WP.iload_n (pc2 := 6) (i := 2) rfl (by decide +kernel) rfl <|
  WP.callV (y := mX11_told) (index := 197) (pc2 := 9) (y' := mX8_answer) (vs := [.inl l1, .inl l2]) rfl (by decide +kernel) okX8_answer ⟨by decide, by decide⟩ ⟨lm_X11_197, ivX8_answer⟩ zSh_11 zc_8 (Nat.le_of_ble_eq_true rfl) ⟨rfl, rfl⟩ rfl (WP.c0i F (fun x1 _ f2 =>
  WP.iret (by decide +kernel) rfl (fun hx => ⟨_, rfl, hx, rfl, rfl, f2⟩))))
set_option maxRecDepth 100000 in
set_option maxHeartbeats 4000000 in
theorem GX11_count {hi : zI} {hr : zR} {P : Int → Prop} (hR : RSc hr) (l1 : Int) 
    (F : ((l1 < 0 ∨ 12 < l1) → (P (-1))) ∧ (l1 = 0 → (∃ j1 : Int, hr 1 0 6 = some (30, j1) ∧ (0 ≤ j1 ∧ j1 < 2) ∧ (P (hi 30 j1 5)))) ∧ (l1 = 1 → (∃ j4 : Int, hr 1 0 6 = some (30, j4) ∧ (0 ≤ j4 ∧ j4 < 2) ∧ (P (hi 30 j4 6)))) ∧ (l1 = 2 → (∃ j7 : Int, hr 1 0 6 = some (30, j7) ∧ (0 ≤ j7 ∧ j7 < 2) ∧ (P (hi 30 j7 8)))) ∧ (l1 = 3 → (∃ j10 : Int, hr 1 0 6 = some (30, j10) ∧ (0 ≤ j10 ∧ j10 < 2) ∧ (P (hi 30 j10 7)))) ∧ (l1 = 4 → (P (hi 11 0 5))) ∧ (l1 = 5 → (P (hi 11 0 6))) ∧ (l1 = 6 → (P (hi 11 0 7))) ∧ (l1 = 7 → (P (hi 1 0 9))) ∧ (l1 = 8 → (P (hi 7 0 4))) ∧ (l1 = 9 → (P (hi 7 0 5))) ∧ (l1 = 10 → (W0i mX5_comingsOnTheWay [.inr (some (7, 0))] hi hr (fun (x13 : Int) => P x13))) ∧ (l1 = 11 → (P (hi 1 0 10))) ∧ (l1 = 12 → (P (hi 2 0 1)))) :
    W0i mX11_count [.inr (some (1, 0)), .inl l1] hi hr P :=
  WPm.of rfl (show WP mX11_count 0 [some (.inr (some (1, 0))), some (.inl l1)] [] hi hr (zQ0i hi hr P) from
  WP.iload_n (pc2 := 1) (i := 1) rfl (by decide +kernel) rfl <|
  WP.tsw (dflt := 165) (lo := 0) (hi' := 12) (offs := #[67, 75, 83, 91, 99, 107, 115, 123, 128, 136, 144, 152, 157]) (len := 67) (by decide +kernel) (fun h15 => ⟨166, by decide, have f16 := F.1 h15
  WP.iconst (pc2 := 167) (x := -1) rfl (by decide +kernel) (by decide) <|
  WP.iret (by decide +kernel) rfl (fun hx => ⟨_, rfl, hx, rfl, rfl, f16⟩)⟩) (fun h1 h2 => by
  rcases (show l1 = 0 ∨ l1 = 1 ∨ l1 = 2 ∨ l1 = 3 ∨ l1 = 4 ∨ l1 = 5 ∨ l1 = 6 ∨ l1 = 7 ∨ l1 = 8 ∨ l1 = 9 ∨ l1 = 10 ∨ l1 = 11 ∨ l1 = 12 by omega) with h15 | h15 | h15 | h15 | h15 | h15 | h15 | h15 | h15 | h15 | h15 | h15 | h15
  · exact ⟨_, 68, by rw [h15]; rfl, by decide, have f17 := F.2.1 h15
    WP.aload_n (pc2 := 69) (i := 0) rfl (by decide +kernel) rfl <|
  Exists.elim f17 (fun j1 f3 => have e2 := f3.1; have e2r := f3.2.1
  WP.getR (pc2 := 72) rfl (by decide +kernel) zc_11 zSh_1 (by decide) rfl lf_X11_53 rfl e2 <|
  WP.getI (pc2 := 75) rfl (by decide +kernel) zc_10 zSh_30 (by decide) rfl lf_X11_200 rfl rfl <|
  WP.iret (by decide +kernel) rfl (fun hx => ⟨_, rfl, hx, rfl, rfl, f3.2.2⟩))⟩
  · exact ⟨_, 76, by rw [h15]; rfl, by decide, have f18 := F.2.2.1 h15
    WP.aload_n (pc2 := 77) (i := 0) rfl (by decide +kernel) rfl <|
  Exists.elim f18 (fun j4 f6 => have e5 := f6.1; have e5r := f6.2.1
  WP.getR (pc2 := 80) rfl (by decide +kernel) zc_11 zSh_1 (by decide) rfl lf_X11_53 rfl e5 <|
  WP.getI (pc2 := 83) rfl (by decide +kernel) zc_10 zSh_30 (by decide) rfl lf_X11_69 rfl rfl <|
  WP.iret (by decide +kernel) rfl (fun hx => ⟨_, rfl, hx, rfl, rfl, f6.2.2⟩))⟩
  · exact ⟨_, 84, by rw [h15]; rfl, by decide, have f19 := F.2.2.2.1 h15
    WP.aload_n (pc2 := 85) (i := 0) rfl (by decide +kernel) rfl <|
  Exists.elim f19 (fun j7 f9 => have e8 := f9.1; have e8r := f9.2.1
  WP.getR (pc2 := 88) rfl (by decide +kernel) zc_11 zSh_1 (by decide) rfl lf_X11_53 rfl e8 <|
  WP.getI (pc2 := 91) rfl (by decide +kernel) zc_10 zSh_30 (by decide) rfl lf_X11_203 rfl rfl <|
  WP.iret (by decide +kernel) rfl (fun hx => ⟨_, rfl, hx, rfl, rfl, f9.2.2⟩))⟩
  · exact ⟨_, 92, by rw [h15]; rfl, by decide, have f20 := F.2.2.2.2.1 h15
    WP.aload_n (pc2 := 93) (i := 0) rfl (by decide +kernel) rfl <|
  Exists.elim f20 (fun j10 f12 => have e11 := f12.1; have e11r := f12.2.1
  WP.getR (pc2 := 96) rfl (by decide +kernel) zc_11 zSh_1 (by decide) rfl lf_X11_53 rfl e11 <|
  WP.getI (pc2 := 99) rfl (by decide +kernel) zc_10 zSh_30 (by decide) rfl lf_X11_206 rfl rfl <|
  WP.iret (by decide +kernel) rfl (fun hx => ⟨_, rfl, hx, rfl, rfl, f12.2.2⟩))⟩
  · exact ⟨_, 100, by rw [h15]; rfl, by decide, have f21 := F.2.2.2.2.2.1 h15
    WP.aload_n (pc2 := 101) (i := 0) rfl (by decide +kernel) rfl <|
  WP.getR (pc2 := 104) rfl (by decide +kernel) zc_11 zSh_1 (by decide) rfl lf_X11_33 rfl (rs_1_3 hR) <|
  WP.getI (pc2 := 107) rfl (by decide +kernel) zc_8 zSh_11 (by decide) rfl lf_X11_209 rfl rfl <|
  WP.iret (by decide +kernel) rfl (fun hx => ⟨_, rfl, hx, rfl, rfl, f21⟩)⟩
  · exact ⟨_, 108, by rw [h15]; rfl, by decide, have f22 := F.2.2.2.2.2.2.1 h15
    WP.aload_n (pc2 := 109) (i := 0) rfl (by decide +kernel) rfl <|
  WP.getR (pc2 := 112) rfl (by decide +kernel) zc_11 zSh_1 (by decide) rfl lf_X11_33 rfl (rs_1_3 hR) <|
  WP.getI (pc2 := 115) rfl (by decide +kernel) zc_8 zSh_11 (by decide) rfl lf_X11_212 rfl rfl <|
  WP.iret (by decide +kernel) rfl (fun hx => ⟨_, rfl, hx, rfl, rfl, f22⟩)⟩
  · exact ⟨_, 116, by rw [h15]; rfl, by decide, have f23 := F.2.2.2.2.2.2.2.1 h15
    WP.aload_n (pc2 := 117) (i := 0) rfl (by decide +kernel) rfl <|
  WP.getR (pc2 := 120) rfl (by decide +kernel) zc_11 zSh_1 (by decide) rfl lf_X11_33 rfl (rs_1_3 hR) <|
  WP.getI (pc2 := 123) rfl (by decide +kernel) zc_8 zSh_11 (by decide) rfl lf_X11_112 rfl rfl <|
  WP.iret (by decide +kernel) rfl (fun hx => ⟨_, rfl, hx, rfl, rfl, f23⟩)⟩
  · exact ⟨_, 124, by rw [h15]; rfl, by decide, have f24 := F.2.2.2.2.2.2.2.2.1 h15
    WP.aload_n (pc2 := 125) (i := 0) rfl (by decide +kernel) rfl <|
  WP.getI (pc2 := 128) rfl (by decide +kernel) zc_11 zSh_1 (by decide) rfl lf_X11_109 rfl rfl <|
  WP.iret (by decide +kernel) rfl (fun hx => ⟨_, rfl, hx, rfl, rfl, f24⟩)⟩
  · exact ⟨_, 129, by rw [h15]; rfl, by decide, have f25 := F.2.2.2.2.2.2.2.2.2.1 h15
    WP.aload_n (pc2 := 130) (i := 0) rfl (by decide +kernel) rfl <|
  WP.getR (pc2 := 133) rfl (by decide +kernel) zc_11 zSh_1 (by decide) rfl lf_X11_26 rfl (rs_1_2 hR) <|
  WP.getI (pc2 := 136) rfl (by decide +kernel) zc_5 zSh_7 (by decide) rfl lf_X11_215 rfl rfl <|
  WP.iret (by decide +kernel) rfl (fun hx => ⟨_, rfl, hx, rfl, rfl, f25⟩)⟩
  · exact ⟨_, 137, by rw [h15]; rfl, by decide, have f26 := F.2.2.2.2.2.2.2.2.2.2.1 h15
    WP.aload_n (pc2 := 138) (i := 0) rfl (by decide +kernel) rfl <|
  WP.getR (pc2 := 141) rfl (by decide +kernel) zc_11 zSh_1 (by decide) rfl lf_X11_26 rfl (rs_1_2 hR) <|
  WP.getI (pc2 := 144) rfl (by decide +kernel) zc_5 zSh_7 (by decide) rfl lf_X11_218 rfl rfl <|
  WP.iret (by decide +kernel) rfl (fun hx => ⟨_, rfl, hx, rfl, rfl, f26⟩)⟩
  · exact ⟨_, 145, by rw [h15]; rfl, by decide, have f27 := F.2.2.2.2.2.2.2.2.2.2.2.1 h15
    WP.aload_n (pc2 := 146) (i := 0) rfl (by decide +kernel) rfl <|
  WP.getR (pc2 := 149) rfl (by decide +kernel) zc_11 zSh_1 (by decide) rfl lf_X11_26 rfl (rs_1_2 hR) <|
  WP.callV (y := mX11_count) (index := 221) (pc2 := 152) (y' := mX5_comingsOnTheWay) (vs := []) rfl (by decide +kernel) okX5_comingsOnTheWay ⟨by decide, by decide⟩ ⟨lm_X11_221, ivX5_comingsOnTheWay⟩ zSh_7 zc_5 (Nat.le_of_ble_eq_true rfl) ⟨rfl, rfl⟩ rfl (WP.c0i f27 (fun x13 _ f14 =>
  WP.iret (by decide +kernel) rfl (fun hx => ⟨_, rfl, hx, rfl, rfl, f14⟩)))⟩
  · exact ⟨_, 153, by rw [h15]; rfl, by decide, have f28 := F.2.2.2.2.2.2.2.2.2.2.2.2.1 h15
    WP.aload_n (pc2 := 154) (i := 0) rfl (by decide +kernel) rfl <|
  WP.getI (pc2 := 157) rfl (by decide +kernel) zc_11 zSh_1 (by decide) rfl lf_X11_224 rfl rfl <|
  WP.iret (by decide +kernel) rfl (fun hx => ⟨_, rfl, hx, rfl, rfl, f28⟩)⟩
  · exact ⟨_, 158, by rw [h15]; rfl, by decide, have f29 := F.2.2.2.2.2.2.2.2.2.2.2.2.2 h15
    WP.aload_n (pc2 := 159) (i := 0) rfl (by decide +kernel) rfl <|
  WP.getR (pc2 := 162) rfl (by decide +kernel) zc_11 zSh_1 (by decide) rfl lf_X11_12 rfl (rs_1_0 hR) <|
  WP.getI (pc2 := 165) rfl (by decide +kernel) zc_7 zSh_2 (by decide) rfl lf_X11_85 rfl rfl <|
  WP.iret (by decide +kernel) rfl (fun hx => ⟨_, rfl, hx, rfl, rfl, f29⟩)⟩
  ))
set_option maxRecDepth 100000 in
set_option maxHeartbeats 4000000 in
theorem GX11_beginAnew {hi : zI} {hr : zR} {P : zI → Prop} (hR : RSc hr)  
    (F : W1v mX8_clear [.inr (some (11, 0))] (zup (zup hi 1 0 9 0) 1 0 10 0) hr (fun (hi1 : zI) => W1v mX5_clear [.inr (some (7, 0))] hi1 hr (fun (hi2 : zI) => ∃ j3 : Int, hr 1 0 6 = some (30, j3) ∧ (0 ≤ j3 ∧ j3 < 2) ∧ (W1v mX1_beginAnew [.inr (some (17, 0)), .inr (some (30, j3))] hi2 hr (fun (hi5 : zI) => WP mX11_beginAnew 37 [some (.inr (some (1, 0))), some (.inl 0)] [] hi5 hr (zQ1v hr P)))))) :
    W1v mX11_beginAnew [.inr (some (1, 0))] hi hr P :=
  WPm.of rfl (show WP mX11_beginAnew 0 [some (.inr (some (1, 0))), none] [] hi hr (zQ1v hr P) from
  WP.aload_n (pc2 := 1) (i := 0) rfl (by decide +kernel) rfl <|
  WP.iconst (pc2 := 2) (x := 0) rfl (by decide +kernel) (by decide) <|
  WP.putI (pc2 := 5) rfl (by decide +kernel) zc_11 zSh_1 (by decide) rfl lf_X11_109 rfl (z_int _) rfl <|
  WP.aload_n (pc2 := 6) (i := 0) rfl (by decide +kernel) rfl <|
  WP.iconst (pc2 := 7) (x := 0) rfl (by decide +kernel) (by decide) <|
  WP.putI (pc2 := 10) rfl (by decide +kernel) zc_11 zSh_1 (by decide) rfl lf_X11_224 rfl (z_int _) rfl <|
  WP.aload_n (pc2 := 11) (i := 0) rfl (by decide +kernel) rfl <|
  WP.getR (pc2 := 14) rfl (by decide +kernel) zc_11 zSh_1 (by decide) rfl lf_X11_33 rfl (rs_1_3 hR) <|
  WP.callV (y := mX11_beginAnew) (index := 227) (pc2 := 17) (y' := mX8_clear) (vs := []) rfl (by decide +kernel) okX8_clear ⟨by decide, by decide⟩ ⟨lm_X11_227, ivX8_clear⟩ zSh_11 zc_8 (Nat.le_of_ble_eq_true rfl) ⟨rfl, rfl⟩ rfl (WP.c1v F (fun hi1 f9 =>
  WP.aload_n (pc2 := 18) (i := 0) rfl (by decide +kernel) rfl <|
  WP.getR (pc2 := 21) rfl (by decide +kernel) zc_11 zSh_1 (by decide) rfl lf_X11_26 rfl (rs_1_2 hR) <|
  WP.callV (y := mX11_beginAnew) (index := 230) (pc2 := 24) (y' := mX5_clear) (vs := []) rfl (by decide +kernel) okX5_clear ⟨by decide, by decide⟩ ⟨lm_X11_230, ivX5_clear⟩ zSh_7 zc_5 (Nat.le_of_ble_eq_true rfl) ⟨rfl, rfl⟩ rfl (WP.c1v f9 (fun hi2 f8 =>
  WP.aload_n (pc2 := 25) (i := 0) rfl (by decide +kernel) rfl <|
  WP.getR (pc2 := 28) rfl (by decide +kernel) zc_11 zSh_1 (by decide) rfl lf_X11_40 rfl (rs_1_4 hR) <|
  WP.aload_n (pc2 := 29) (i := 0) rfl (by decide +kernel) rfl <|
  Exists.elim f8 (fun j3 f7 => have e4 := f7.1; have e4r := f7.2.1
  WP.getR (pc2 := 32) rfl (by decide +kernel) zc_11 zSh_1 (by decide) rfl lf_X11_53 rfl e4 <|
  WP.callV (y := mX11_beginAnew) (index := 231) (pc2 := 35) (y' := mX1_beginAnew) (vs := [.inr (some (30, j3))]) rfl (by decide +kernel) okX1_beginAnew ⟨by decide, by decide⟩ ⟨lm_X11_231, ivX1_beginAnew⟩ zSh_17 zc_1 (Nat.le_of_ble_eq_true rfl) ⟨rfl, rfl⟩ rfl (WP.c1v f7.2.2 (fun hi5 f6 =>
  WP.iconst (pc2 := 36) (x := 0) rfl (by decide +kernel) (by decide) <|
  WP.istore_n (pc2 := 37) (i := 1) rfl (by decide +kernel) (by decide) <|
  f6))))))))

set_option maxRecDepth 100000 in
set_option maxHeartbeats 4000000 in
theorem GX11_beginAnew_37 {hi : zI} {hr : zR} {P : zI → Prop} (hR : RSc hr) (a1 : Int) 
    (F : (6 ≤ a1 → P hi) ∧ (a1 < 6 → ((0 ≤ a1 ∧ a1 < 6) ∧ (∃ j11 : Int, hr 1 0 6 = some (30, j11) ∧ (0 ≤ j11 ∧ j11 < 2) ∧ (W0i mX10_parkingCell [.inr (some (30, j11)), .inl a1] hi hr (fun (x13 : Int) => W1v mX9_beginAnew [.inr (some (36, a1)), .inl x13] hi hr (fun (hi14 : zI) => (zInR (a1 + 1)) ∧ (WP mX11_beginAnew 37 [some (.inr (some (1, 0))), some (.inl (a1 + 1))] [] hi14 hr (zQ1v hr P))))))))) :
    WP mX11_beginAnew 37 [some (.inr (some (1, 0))), some (.inl a1)] [] hi hr (zQ1v hr P) :=
  WP.iload_n (pc2 := 38) (i := 1) rfl (by decide +kernel) rfl <|
  WP.bipush (pc2 := 40) (x := 6) rfl (by decide +kernel) ⟨by decide +kernel, by decide⟩ <|
  WP.icmp_ge (pc2 := 43) (off := 26) (tgt := 66) rfl (by decide +kernel) (by decide) (fun h18 => have f19 := F.1 h18
  WP.vret (by decide +kernel) rfl ⟨rfl, rfl, f19⟩) (fun h18 => have f20 := F.2 h18
  WP.aload_n (pc2 := 44) (i := 0) rfl (by decide +kernel) rfl <|
  WP.getR (pc2 := 47) rfl (by decide +kernel) zc_11 zSh_1 (by decide) rfl lf_X11_46 rfl (rs_1_5 hR) <|
  WP.iload_n (pc2 := 48) (i := 1) rfl (by decide +kernel) rfl <|
  WP.aaload (pc2 := 49) rfl (by decide +kernel) zSh_29 (by decide) rfl f20.1 (rs_29_e hR a1 f20.1) <|
  WP.aload_n (pc2 := 50) (i := 0) rfl (by decide +kernel) rfl <|
  Exists.elim f20.2 (fun j11 f17 => have e12 := f17.1; have e12r := f17.2.1
  WP.getR (pc2 := 53) rfl (by decide +kernel) zc_11 zSh_1 (by decide) rfl lf_X11_53 rfl e12 <|
  WP.iload_n (pc2 := 54) (i := 1) rfl (by decide +kernel) rfl <|
  WP.callV (y := mX11_beginAnew) (index := 234) (pc2 := 57) (y' := mX10_parkingCell) (vs := [.inl a1]) rfl (by decide +kernel) okX10_parkingCell ⟨by decide, by decide⟩ ⟨lm_X11_234, ivX10_parkingCell⟩ zSh_30 zc_10 (Nat.le_of_ble_eq_true rfl) ⟨rfl, rfl⟩ rfl (WP.c0i f17.2.2 (fun x13 _ f16 =>
  WP.callV (y := mX11_beginAnew) (index := 237) (pc2 := 60) (y' := mX9_beginAnew) (vs := [.inl x13]) rfl (by decide +kernel) okX9_beginAnew ⟨by decide, by decide⟩ ⟨lm_X11_237, ivX9_beginAnew⟩ zSh_36 zc_9 (Nat.le_of_ble_eq_true rfl) ⟨rfl, rfl⟩ rfl (WP.c1v f16 (fun hi14 f15 =>
  WP.iinc (pc2 := 63) (i := 1) (d := 1) rfl (by decide +kernel) rfl f15.1 <|
  WP.goto (off := -26) (tgt := 37) (by decide +kernel) (by decide) <|
  f15.2))))))
set_option maxRecDepth 100000 in
set_option maxHeartbeats 4000000 in
theorem GX11_vehicleAt {hi : zI} {hr : zR} {P : Option (Nat × Int) → Prop} (hR : RSc hr) (l1 : Int) 
    (F : (l1 < 0 → P none) ∧ (0 ≤ l1 → (∃ j1 : Int, hr 1 0 6 = some (30, j1) ∧ (0 ≤ j1 ∧ j1 < 2) ∧ ((hi 30 j1 8 ≤ l1 → P none) ∧ (l1 < hi 30 j1 8 → ((6 ≤ l1 → P none) ∧ (l1 < 6 → ((0 ≤ l1 ∧ l1 < 6) ∧ (P (some (36, l1))))))))))) :
    W0r mX11_vehicleAt [.inr (some (1, 0)), .inl l1] hi hr P :=
  WPm.of rfl (show WP mX11_vehicleAt 0 [some (.inr (some (1, 0))), some (.inl l1)] [] hi hr (zQ0r hi hr P) from
  WP.iload_n (pc2 := 1) (i := 1) rfl (by decide +kernel) rfl <|
  WP.if_lt (pc2 := 4) (off := 29) (tgt := 30) rfl (by decide +kernel) (by decide) (fun h11 => have f12 := F.1 h11
  WP.null (pc2 := 31) rfl (by decide +kernel) <|
  WP.aret (by decide +kernel) rfl ⟨_, rfl, rfl, rfl, f12⟩) (fun h11 => have f13 := F.2 h11
  WP.iload_n (pc2 := 5) (i := 1) rfl (by decide +kernel) rfl <|
  WP.aload_n (pc2 := 6) (i := 0) rfl (by decide +kernel) rfl <|
  Exists.elim f13 (fun j1 f10 => have e2 := f10.1; have e2r := f10.2.1
  WP.getR (pc2 := 9) rfl (by decide +kernel) zc_11 zSh_1 (by decide) rfl lf_X11_53 rfl e2 <|
  WP.getI (pc2 := 12) rfl (by decide +kernel) zc_10 zSh_30 (by decide) rfl lf_X11_203 rfl rfl <|
  WP.icmp_ge (pc2 := 15) (off := 18) (tgt := 30) rfl (by decide +kernel) (by decide) (fun h7 => have f8 := f10.2.2.1 h7
  WP.null (pc2 := 31) rfl (by decide +kernel) <|
  WP.aret (by decide +kernel) rfl ⟨_, rfl, rfl, rfl, f8⟩) (fun h7 => have f9 := f10.2.2.2 h7
  WP.iload_n (pc2 := 16) (i := 1) rfl (by decide +kernel) rfl <|
  WP.bipush (pc2 := 18) (x := 6) rfl (by decide +kernel) ⟨by decide +kernel, by decide⟩ <|
  WP.icmp_ge (pc2 := 21) (off := 12) (tgt := 30) rfl (by decide +kernel) (by decide) (fun h4 => have f5 := f9.1 h4
  WP.null (pc2 := 31) rfl (by decide +kernel) <|
  WP.aret (by decide +kernel) rfl ⟨_, rfl, rfl, rfl, f5⟩) (fun h4 => have f6 := f9.2 h4
  WP.aload_n (pc2 := 22) (i := 0) rfl (by decide +kernel) rfl <|
  WP.getR (pc2 := 25) rfl (by decide +kernel) zc_11 zSh_1 (by decide) rfl lf_X11_46 rfl (rs_1_5 hR) <|
  WP.iload_n (pc2 := 26) (i := 1) rfl (by decide +kernel) rfl <|
  WP.aaload (pc2 := 27) rfl (by decide +kernel) zSh_29 (by decide) rfl f6.1 (rs_29_e hR l1 f6.1) <|
  WP.goto (off := 4) (tgt := 31) (by decide +kernel) (by decide) <|
  WP.aret (by decide +kernel) rfl ⟨_, rfl, rfl, rfl, f6.2⟩)))))
set_option maxRecDepth 100000 in
set_option maxHeartbeats 4000000 in
theorem GX11_vehicleIn {hi : zI} {hr : zR} {P : Int → Prop} (l1 : Int) 
    (F : WP mX11_vehicleIn 2 [some (.inr (some (1, 0))), some (.inl l1), some (.inl 0), none] [] hi hr (zQ0i hi hr P)) :
    W0i mX11_vehicleIn [.inr (some (1, 0)), .inl l1] hi hr P :=
  WPm.of rfl (show WP mX11_vehicleIn 0 [some (.inr (some (1, 0))), some (.inl l1), none, none] [] hi hr (zQ0i hi hr P) from
  WP.iconst (pc2 := 1) (x := 0) rfl (by decide +kernel) (by decide) <|
  WP.istore_n (pc2 := 2) (i := 2) rfl (by decide +kernel) (by decide) <|
  F)

set_option maxRecDepth 100000 in
set_option maxHeartbeats 4000000 in
theorem GX11_vehicleIn_2 {hi : zI} {hr : zR} {P : Int → Prop} (l1 : Int) (a2 : Int) (u3 : Option zV) 
    (F : ∃ j17 : Int, hr 1 0 6 = some (30, j17) ∧ (0 ≤ j17 ∧ j17 < 2) ∧ ((hi 30 j17 8 ≤ a2 → (P (-1))) ∧ (a2 < hi 30 j17 8 → (W0r mX11_vehicleAt [.inr (some (1, 0)), .inl a2] hi hr (fun (o19 : Option (Nat × Int)) => (o19 = none → ((zInR (a2 + 1)) ∧ (WP mX11_vehicleIn 2 [some (.inr (some (1, 0))), some (.inl l1), some (.inl (a2 + 1)), some (.inr none)] [] hi hr (zQ0i hi hr P)))) ∧ (∀ w, o19 = some w → ∃ q20 : Int, w = (36, q20) ∧ ((hi 36 q20 0 ≠ l1 → ((zInR (a2 + 1)) ∧ (WP mX11_vehicleIn 2 [some (.inr (some (1, 0))), some (.inl l1), some (.inl (a2 + 1)), some (.inr (some (36, q20)))] [] hi hr (zQ0i hi hr P)))) ∧ (hi 36 q20 0 = l1 → P a2)))))))) :
    WP mX11_vehicleIn 2 [some (.inr (some (1, 0))), some (.inl l1), some (.inl a2), u3] [] hi hr (zQ0i hi hr P) :=
  WP.iload_n (pc2 := 3) (i := 2) rfl (by decide +kernel) rfl <|
  WP.aload_n (pc2 := 4) (i := 0) rfl (by decide +kernel) rfl <|
  Exists.elim F (fun j17 f32 => have e18 := f32.1; have e18r := f32.2.1
  WP.getR (pc2 := 7) rfl (by decide +kernel) zc_11 zSh_1 (by decide) rfl lf_X11_53 rfl e18 <|
  WP.getI (pc2 := 10) rfl (by decide +kernel) zc_10 zSh_30 (by decide) rfl lf_X11_203 rfl rfl <|
  WP.icmp_ge (pc2 := 13) (off := 29) (tgt := 39) rfl (by decide +kernel) (by decide) (fun h29 => have f30 := f32.2.2.1 h29
  WP.iconst (pc2 := 40) (x := -1) rfl (by decide +kernel) (by decide) <|
  WP.iret (by decide +kernel) rfl (fun hx => ⟨_, rfl, hx, rfl, rfl, f30⟩)) (fun h29 => have f31 := f32.2.2.2 h29
  WP.aload_n (pc2 := 14) (i := 0) rfl (by decide +kernel) rfl <|
  WP.iload_n (pc2 := 15) (i := 2) rfl (by decide +kernel) rfl <|
  WP.callV (y := mX11_vehicleIn) (index := 154) (pc2 := 18) (y' := mX11_vehicleAt) (vs := [.inl a2]) rfl (by decide +kernel) okX11_vehicleAt ⟨by decide, by decide⟩ ⟨lm_X11_154, ivX11_vehicleAt⟩ zSh_1 zc_11 (Nat.le_of_ble_eq_true rfl) ⟨rfl, rfl⟩ rfl (WP.c0r f31 (fun o19 f28 =>
  WP.astore_n (pc2 := 19) (i := 3) rfl (by decide +kernel) (by decide) <|
  WP.aload_n (pc2 := 20) (i := 3) rfl (by decide +kernel) rfl <|
  WP.ifnull (pc2 := 23) (off := 13) (tgt := 33) rfl (by decide +kernel) (by decide) (fun e27 => have f24 := f28.1 e27
  by subst e27; exact WP.iinc (pc2 := 36) (i := 2) (d := 1) rfl (by decide +kernel) rfl f24.1 <|
  WP.goto (off := -34) (tgt := 2) (by decide +kernel) (by decide) <|
  f24.2) (fun w26 e27 => Exists.elim (f28.2 w26 e27) (fun q20 f25x => by
  obtain ⟨rfl, f25⟩ := f25x
  subst e27
  exact WP.aload_n (pc2 := 24) (i := 3) rfl (by decide +kernel) rfl <|
  WP.getI (pc2 := 27) rfl (by decide +kernel) zc_9 zSh_36 (by decide) rfl lf_X11_239 rfl rfl <|
  WP.iload_n (pc2 := 28) (i := 1) rfl (by decide +kernel) rfl <|
  WP.icmp_ne (pc2 := 31) (off := 5) (tgt := 33) rfl (by decide +kernel) (by decide) (fun h21 => have f22 := f25.1 h21
  WP.iinc (pc2 := 36) (i := 2) (d := 1) rfl (by decide +kernel) rfl f22.1 <|
  WP.goto (off := -34) (tgt := 2) (by decide +kernel) (by decide) <|
  f22.2) (fun h21 => have f23 := f25.2 h21
  WP.iload_n (pc2 := 32) (i := 2) rfl (by decide +kernel) rfl <|
  WP.iret (by decide +kernel) rfl (fun hx => ⟨_, rfl, hx, rfl, rfl, f23⟩))))))))
set_option maxRecDepth 100000 in
set_option maxHeartbeats 4000000 in
theorem GX11_ofVehicle {hi : zI} {hr : zR} {P : Int → Prop} (hR : RSc hr) (j0 : Int) (j1 : Int) (l2 : Int) (hj0 : 0 ≤ j0 ∧ j0 < 6) (hj1 : 0 ≤ j1 ∧ j1 < 6)
    (F : ((l2 < 0 ∨ 6 < l2) → (P (-1))) ∧ (l2 = 0 → (P (hi 36 j0 0))) ∧ (l2 = 1 → ((hi 36 j0 1 ≠ hi 24 j1 1 → P 0) ∧ (hi 36 j0 1 = hi 24 j1 1 → (W0i mX6_stageAfter [.inr (some (25, j1)), .inl (hi 36 j0 2)] hi hr (fun (x1 : Int) => P x1))))) ∧ (l2 = 2 → (P (hi 36 j0 1))) ∧ (l2 = 3 → (P (hi 36 j0 2))) ∧ (l2 = 4 → ((hi 36 j0 3 = 0 → P 0) ∧ (hi 36 j0 3 ≠ 0 → P 1))) ∧ (l2 = 5 → (W0i mX9_halts [.inr (some (36, j0))] hi hr (fun (x9 : Int) => (x9 = 0 → P 0) ∧ (x9 ≠ 0 → P 1)))) ∧ (l2 = 6 → (P (hi 36 j0 5)))) :
    W0i mX11_ofVehicle [.inr (some (36, j0)), .inr (some (24, j1)), .inl l2] hi hr P :=
  WPm.of rfl (show WP mX11_ofVehicle 0 [some (.inr (some (36, j0))), some (.inr (some (24, j1))), some (.inl l2)] [] hi hr (zQ0i hi hr P) from
  WP.iload_n (pc2 := 1) (i := 2) rfl (by decide +kernel) rfl <|
  WP.tsw (dflt := 116) (lo := 0) (hi' := 6) (offs := #[43, 48, 75, 80, 85, 98, 111]) (len := 43) (by decide +kernel) (fun h14 => ⟨117, by decide, have f15 := F.1 h14
  WP.iconst (pc2 := 118) (x := -1) rfl (by decide +kernel) (by decide) <|
  WP.iret (by decide +kernel) rfl (fun hx => ⟨_, rfl, hx, rfl, rfl, f15⟩)⟩) (fun h1 h2 => by
  rcases (show l2 = 0 ∨ l2 = 1 ∨ l2 = 2 ∨ l2 = 3 ∨ l2 = 4 ∨ l2 = 5 ∨ l2 = 6 by omega) with h14 | h14 | h14 | h14 | h14 | h14 | h14
  · exact ⟨_, 44, by rw [h14]; rfl, by decide, have f16 := F.2.1 h14
    WP.aload_n (pc2 := 45) (i := 0) rfl (by decide +kernel) rfl <|
  WP.getI (pc2 := 48) rfl (by decide +kernel) zc_9 zSh_36 (by decide) rfl lf_X11_239 rfl rfl <|
  WP.iret (by decide +kernel) rfl (fun hx => ⟨_, rfl, hx, rfl, rfl, f16⟩)⟩
  · exact ⟨_, 49, by rw [h14]; rfl, by decide, have f17 := F.2.2.1 h14
    WP.aload_n (pc2 := 50) (i := 0) rfl (by decide +kernel) rfl <|
  WP.getI (pc2 := 53) rfl (by decide +kernel) zc_9 zSh_36 (by decide) rfl lf_X11_242 rfl rfl <|
  WP.aload_n (pc2 := 54) (i := 1) rfl (by decide +kernel) rfl <|
  WP.getI (pc2 := 57) rfl (by decide +kernel) zc_0 zSh_24 (by decide) rfl lf_X11_181 rfl rfl <|
  WP.icmp_ne (pc2 := 60) (off := 17) (tgt := 74) rfl (by decide +kernel) (by decide) (fun h3 => have f4 := f17.1 h3
  WP.iconst (pc2 := 75) (x := 0) rfl (by decide +kernel) (by decide) <|
  WP.iret (by decide +kernel) rfl (fun hx => ⟨_, rfl, hx, rfl, rfl, f4⟩)) (fun h3 => have f5 := f17.2 h3
  WP.aload_n (pc2 := 61) (i := 1) rfl (by decide +kernel) rfl <|
  WP.getR (pc2 := 64) rfl (by decide +kernel) zc_0 zSh_24 (by decide) rfl lf_X11_170 rfl (rs_24_0 hR j1 hj1) <|
  WP.aload_n (pc2 := 65) (i := 0) rfl (by decide +kernel) rfl <|
  WP.getI (pc2 := 68) rfl (by decide +kernel) zc_9 zSh_36 (by decide) rfl lf_X11_243 rfl rfl <|
  WP.callV (y := mX11_ofVehicle) (index := 246) (pc2 := 71) (y' := mX6_stageAfter) (vs := [.inl (hi 36 j0 2)]) rfl (by decide +kernel) okX6_stageAfter ⟨by decide, by decide⟩ ⟨lm_X11_246, ivX6_stageAfter⟩ zSh_25 zc_6 (Nat.le_of_ble_eq_true rfl) ⟨rfl, rfl⟩ rfl (WP.c0i f5 (fun x1 _ f2 =>
  WP.goto (off := 4) (tgt := 75) (by decide +kernel) (by decide) <|
  WP.iret (by decide +kernel) rfl (fun hx => ⟨_, rfl, hx, rfl, rfl, f2⟩))))⟩
  · exact ⟨_, 76, by rw [h14]; rfl, by decide, have f18 := F.2.2.2.1 h14
    WP.aload_n (pc2 := 77) (i := 0) rfl (by decide +kernel) rfl <|
  WP.getI (pc2 := 80) rfl (by decide +kernel) zc_9 zSh_36 (by decide) rfl lf_X11_242 rfl rfl <|
  WP.iret (by decide +kernel) rfl (fun hx => ⟨_, rfl, hx, rfl, rfl, f18⟩)⟩
  · exact ⟨_, 81, by rw [h14]; rfl, by decide, have f19 := F.2.2.2.2.1 h14
    WP.aload_n (pc2 := 82) (i := 0) rfl (by decide +kernel) rfl <|
  WP.getI (pc2 := 85) rfl (by decide +kernel) zc_9 zSh_36 (by decide) rfl lf_X11_243 rfl rfl <|
  WP.iret (by decide +kernel) rfl (fun hx => ⟨_, rfl, hx, rfl, rfl, f19⟩)⟩
  · exact ⟨_, 86, by rw [h14]; rfl, by decide, have f20 := F.2.2.2.2.2.1 h14
    WP.aload_n (pc2 := 87) (i := 0) rfl (by decide +kernel) rfl <|
  WP.getI (pc2 := 90) rfl (by decide +kernel) zc_9 zSh_36 (by decide) rfl lf_X11_249 rfl rfl <|
  WP.if_eq (pc2 := 93) (off := 7) (tgt := 97) rfl (by decide +kernel) (by decide) (fun h6 => have f7 := f20.1 h6
  WP.iconst (pc2 := 98) (x := 0) rfl (by decide +kernel) (by decide) <|
  WP.iret (by decide +kernel) rfl (fun hx => ⟨_, rfl, hx, rfl, rfl, f7⟩)) (fun h6 => have f8 := f20.2 h6
  WP.iconst (pc2 := 94) (x := 1) rfl (by decide +kernel) (by decide) <|
  WP.goto (off := 4) (tgt := 98) (by decide +kernel) (by decide) <|
  WP.iret (by decide +kernel) rfl (fun hx => ⟨_, rfl, hx, rfl, rfl, f8⟩))⟩
  · exact ⟨_, 99, by rw [h14]; rfl, by decide, have f21 := F.2.2.2.2.2.2.1 h14
    WP.aload_n (pc2 := 100) (i := 0) rfl (by decide +kernel) rfl <|
  WP.callV (y := mX11_ofVehicle) (index := 253) (pc2 := 103) (y' := mX9_halts) (vs := []) rfl (by decide +kernel) okX9_halts ⟨by decide, by decide⟩ ⟨lm_X11_253, ivX9_halts⟩ zSh_36 zc_9 (Nat.le_of_ble_eq_true rfl) ⟨rfl, rfl⟩ rfl (WP.c0i f21 (fun x9 _ f13 =>
  WP.if_eq (pc2 := 106) (off := 7) (tgt := 110) rfl (by decide +kernel) (by decide) (fun h10 => have f11 := f13.1 h10
  WP.iconst (pc2 := 111) (x := 0) rfl (by decide +kernel) (by decide) <|
  WP.iret (by decide +kernel) rfl (fun hx => ⟨_, rfl, hx, rfl, rfl, f11⟩)) (fun h10 => have f12 := f13.2 h10
  WP.iconst (pc2 := 107) (x := 1) rfl (by decide +kernel) (by decide) <|
  WP.goto (off := 4) (tgt := 111) (by decide +kernel) (by decide) <|
  WP.iret (by decide +kernel) rfl (fun hx => ⟨_, rfl, hx, rfl, rfl, f12⟩))))⟩
  · exact ⟨_, 112, by rw [h14]; rfl, by decide, have f22 := F.2.2.2.2.2.2.2 h14
    WP.aload_n (pc2 := 113) (i := 0) rfl (by decide +kernel) rfl <|
  WP.getI (pc2 := 116) rfl (by decide +kernel) zc_9 zSh_36 (by decide) rfl lf_X11_256 rfl rfl <|
  WP.iret (by decide +kernel) rfl (fun hx => ⟨_, rfl, hx, rfl, rfl, f22⟩)⟩
  ))
set_option maxRecDepth 100000 in
set_option maxHeartbeats 4000000 in
theorem GX11_ofAccount {hi : zI} {hr : zR} {P : Int → Prop} (hR : RSc hr) (j0 : Int) (l1 : Int) (hj0 : 0 ≤ j0 ∧ j0 < 6)
    (F : ((l1 < 7 ∨ 13 < l1) → (P (-1))) ∧ (l1 = 7 → (W0i mX0_isIdle [.inr (some (24, j0))] hi hr (fun (x1 : Int) => (x1 = 0 → P 0) ∧ (x1 ≠ 0 → P 1)))) ∧ (l1 = 8 → (P (hi 24 j0 3))) ∧ (l1 = 9 → (P (hi 24 j0 4))) ∧ (l1 = 10 → (P (hi 24 j0 1))) ∧ (l1 = 11 → (P (hi 24 j0 2))) ∧ (l1 = 12 → (P (hi 25 j0 5))) ∧ (l1 = 13 → (P (hi 24 j0 5)))) :
    W0i mX11_ofAccount [.inr (some (24, j0)), .inl l1] hi hr P :=
  WPm.of rfl (show WP mX11_ofAccount 0 [some (.inr (some (24, j0))), some (.inl l1)] [] hi hr (zQ0i hi hr P) from
  WP.iload_n (pc2 := 1) (i := 1) rfl (by decide +kernel) rfl <|
  WP.tsw (dflt := 89) (lo := 7) (hi' := 13) (offs := #[43, 56, 61, 66, 71, 76, 84]) (len := 43) (by decide +kernel) (fun h6 => ⟨90, by decide, have f7 := F.1 h6
  WP.iconst (pc2 := 91) (x := -1) rfl (by decide +kernel) (by decide) <|
  WP.iret (by decide +kernel) rfl (fun hx => ⟨_, rfl, hx, rfl, rfl, f7⟩)⟩) (fun h1 h2 => by
  rcases (show l1 = 7 ∨ l1 = 8 ∨ l1 = 9 ∨ l1 = 10 ∨ l1 = 11 ∨ l1 = 12 ∨ l1 = 13 by omega) with h6 | h6 | h6 | h6 | h6 | h6 | h6
  · exact ⟨_, 44, by rw [h6]; rfl, by decide, have f8 := F.2.1 h6
    WP.aload_n (pc2 := 45) (i := 0) rfl (by decide +kernel) rfl <|
  WP.callV (y := mX11_ofAccount) (index := 259) (pc2 := 48) (y' := mX0_isIdle) (vs := []) rfl (by decide +kernel) okX0_isIdle ⟨by decide, by decide⟩ ⟨lm_X11_259, ivX0_isIdle⟩ zSh_24 zc_0 (Nat.le_of_ble_eq_true rfl) ⟨rfl, rfl⟩ rfl (WP.c0i f8 (fun x1 _ f5 =>
  WP.if_eq (pc2 := 51) (off := 7) (tgt := 55) rfl (by decide +kernel) (by decide) (fun h2 => have f3 := f5.1 h2
  WP.iconst (pc2 := 56) (x := 0) rfl (by decide +kernel) (by decide) <|
  WP.iret (by decide +kernel) rfl (fun hx => ⟨_, rfl, hx, rfl, rfl, f3⟩)) (fun h2 => have f4 := f5.2 h2
  WP.iconst (pc2 := 52) (x := 1) rfl (by decide +kernel) (by decide) <|
  WP.goto (off := 4) (tgt := 56) (by decide +kernel) (by decide) <|
  WP.iret (by decide +kernel) rfl (fun hx => ⟨_, rfl, hx, rfl, rfl, f4⟩))))⟩
  · exact ⟨_, 57, by rw [h6]; rfl, by decide, have f9 := F.2.2.1 h6
    WP.aload_n (pc2 := 58) (i := 0) rfl (by decide +kernel) rfl <|
  WP.getI (pc2 := 61) rfl (by decide +kernel) zc_0 zSh_24 (by decide) rfl lf_X11_262 rfl rfl <|
  WP.iret (by decide +kernel) rfl (fun hx => ⟨_, rfl, hx, rfl, rfl, f9⟩)⟩
  · exact ⟨_, 62, by rw [h6]; rfl, by decide, have f10 := F.2.2.2.1 h6
    WP.aload_n (pc2 := 63) (i := 0) rfl (by decide +kernel) rfl <|
  WP.getI (pc2 := 66) rfl (by decide +kernel) zc_0 zSh_24 (by decide) rfl lf_X11_265 rfl rfl <|
  WP.iret (by decide +kernel) rfl (fun hx => ⟨_, rfl, hx, rfl, rfl, f10⟩)⟩
  · exact ⟨_, 67, by rw [h6]; rfl, by decide, have f11 := F.2.2.2.2.1 h6
    WP.aload_n (pc2 := 68) (i := 0) rfl (by decide +kernel) rfl <|
  WP.getI (pc2 := 71) rfl (by decide +kernel) zc_0 zSh_24 (by decide) rfl lf_X11_181 rfl rfl <|
  WP.iret (by decide +kernel) rfl (fun hx => ⟨_, rfl, hx, rfl, rfl, f11⟩)⟩
  · exact ⟨_, 72, by rw [h6]; rfl, by decide, have f12 := F.2.2.2.2.2.1 h6
    WP.aload_n (pc2 := 73) (i := 0) rfl (by decide +kernel) rfl <|
  WP.getI (pc2 := 76) rfl (by decide +kernel) zc_0 zSh_24 (by decide) rfl lf_X11_268 rfl rfl <|
  WP.iret (by decide +kernel) rfl (fun hx => ⟨_, rfl, hx, rfl, rfl, f12⟩)⟩
  · exact ⟨_, 77, by rw [h6]; rfl, by decide, have f13 := F.2.2.2.2.2.2.1 h6
    WP.aload_n (pc2 := 78) (i := 0) rfl (by decide +kernel) rfl <|
  WP.getR (pc2 := 81) rfl (by decide +kernel) zc_0 zSh_24 (by decide) rfl lf_X11_170 rfl (rs_24_0 hR j0 hj0) <|
  WP.getI (pc2 := 84) rfl (by decide +kernel) zc_6 zSh_25 (by decide) rfl lf_X11_271 rfl rfl <|
  WP.iret (by decide +kernel) rfl (fun hx => ⟨_, rfl, hx, rfl, rfl, f13⟩)⟩
  · exact ⟨_, 85, by rw [h6]; rfl, by decide, have f14 := F.2.2.2.2.2.2.2 h6
    WP.aload_n (pc2 := 86) (i := 0) rfl (by decide +kernel) rfl <|
  WP.getI (pc2 := 89) rfl (by decide +kernel) zc_0 zSh_24 (by decide) rfl lf_X11_274 rfl rfl <|
  WP.iret (by decide +kernel) rfl (fun hx => ⟨_, rfl, hx, rfl, rfl, f14⟩)⟩
  ))
set_option maxRecDepth 100000 in
set_option maxHeartbeats 4000000 in
theorem GX11_takeMessages {hi : zI} {hr : zR} {P : zI → zR → Prop}  
    (F : WP mX11_takeMessages 2 [some (.inr (some (1, 0))), some (.inl 0), none] [] hi hr (zQ2v P)) :
    W2v mX11_takeMessages [.inr (some (1, 0))] hi hr P :=
  WPm.of rfl (show WP mX11_takeMessages 0 [some (.inr (some (1, 0))), none, none] [] hi hr (zQ2v P) from
  WP.iconst (pc2 := 1) (x := 0) rfl (by decide +kernel) (by decide) <|
  WP.istore_n (pc2 := 2) (i := 1) rfl (by decide +kernel) (by decide) <|
  F)

set_option maxRecDepth 100000 in
set_option maxHeartbeats 4000000 in
theorem GX11_takeMessages_2 {hi : zI} {hr : zR} {P : zI → zR → Prop} (hR : RSc hr) (a1 : Int) 
    (F : (6 ≤ a1 → (WP mX11_takeMessages 31 [some (.inr (some (1, 0))), some (.inl 0), none] [] hi hr (zQ2v P))) ∧ (a1 < 6 → ((0 ≤ a1 ∧ a1 < 6) ∧ ((zInR ((hi 36 a1 5) + 1)) ∧ ((zInR (a1 + 1)) ∧ (WP mX11_takeMessages 2 [some (.inr (some (1, 0))), some (.inl (a1 + 1)), none] [] (zup hi 36 a1 5 ((hi 36 a1 5) + 1)) hr (zQ2v P))))))) :
    WP mX11_takeMessages 2 [some (.inr (some (1, 0))), some (.inl a1), none] [] hi hr (zQ2v P) :=
  WP.iload_n (pc2 := 3) (i := 1) rfl (by decide +kernel) rfl <|
  WP.bipush (pc2 := 5) (x := 6) rfl (by decide +kernel) ⟨by decide +kernel, by decide⟩ <|
  WP.icmp_ge (pc2 := 8) (off := 24) (tgt := 29) rfl (by decide +kernel) (by decide) (fun h2 => have f3 := F.1 h2
  WP.iconst (pc2 := 30) (x := 0) rfl (by decide +kernel) (by decide) <|
  WP.istore_n (pc2 := 31) (i := 1) rfl (by decide +kernel) (by decide) <|
  f3) (fun h2 => have f4 := F.2 h2
  WP.aload_n (pc2 := 9) (i := 0) rfl (by decide +kernel) rfl <|
  WP.getR (pc2 := 12) rfl (by decide +kernel) zc_11 zSh_1 (by decide) rfl lf_X11_46 rfl (rs_1_5 hR) <|
  WP.iload_n (pc2 := 13) (i := 1) rfl (by decide +kernel) rfl <|
  WP.aaload (pc2 := 14) rfl (by decide +kernel) zSh_29 (by decide) rfl f4.1 (rs_29_e hR a1 f4.1) <|
  WP.dup (pc2 := 15) rfl (by decide +kernel) <|
  WP.getI (pc2 := 18) rfl (by decide +kernel) zc_9 zSh_36 (by decide) rfl lf_X11_256 rfl rfl <|
  WP.iconst (pc2 := 19) (x := 1) rfl (by decide +kernel) (by decide) <|
  WP.iadd (pc2 := 20) rfl (by decide +kernel) f4.2.1 <|
  WP.putI (pc2 := 23) rfl (by decide +kernel) zc_9 zSh_36 (by decide) rfl lf_X11_256 rfl (z_int _) rfl <|
  WP.iinc (pc2 := 26) (i := 1) (d := 1) rfl (by decide +kernel) rfl f4.2.2.1 <|
  WP.goto (off := -24) (tgt := 2) (by decide +kernel) (by decide) <|
  f4.2.2.2)

set_option maxRecDepth 100000 in
set_option maxHeartbeats 4000000 in
theorem GX11_takeMessages_31 {hi : zI} {hr : zR} {P : zI → zR → Prop} (hR : RSc hr) (a1 : Int) (u2 : Option zV) 
    (F : (hi 7 0 3 ≤ a1 → (W2v mX5_forgetCome [.inr (some (7, 0)), .inl (hi 1 0 9)] hi hr (fun (hi21 : zI) (hr22 : zR) => RSc hr22 ∧ P hi21 hr22))) ∧ (a1 < hi 7 0 3 → (W0r mX5_comingAt [.inr (some (7, 0)), .inl a1, .inl (hi 1 0 9)] hi hr (fun (o24 : Option (Nat × Int)) => (o24 = none → ((zInR (a1 + 1)) ∧ (WP mX11_takeMessages 31 [some (.inr (some (1, 0))), some (.inl (a1 + 1)), some (.inr none)] [] hi hr (zQ2v P)))) ∧ (∀ w, o24 = some w → ∃ q25 : Int, w = (10, q25) ∧ (W1v mX11_deliver [.inr (some (1, 0)), .inr (some (10, q25))] hi hr (fun (hi26 : zI) => (zInR (a1 + 1)) ∧ (WP mX11_takeMessages 31 [some (.inr (some (1, 0))), some (.inl (a1 + 1)), some (.inr (some (10, q25)))] [] hi26 hr (zQ2v P))))))))) :
    WP mX11_takeMessages 31 [some (.inr (some (1, 0))), some (.inl a1), u2] [] hi hr (zQ2v P) :=
  WP.iload_n (pc2 := 32) (i := 1) rfl (by decide +kernel) rfl <|
  WP.aload_n (pc2 := 33) (i := 0) rfl (by decide +kernel) rfl <|
  WP.getR (pc2 := 36) rfl (by decide +kernel) zc_11 zSh_1 (by decide) rfl lf_X11_26 rfl (rs_1_2 hR) <|
  WP.getI (pc2 := 39) rfl (by decide +kernel) zc_5 zSh_7 (by decide) rfl lf_X11_277 rfl rfl <|
  WP.icmp_ge (pc2 := 42) (off := 31) (tgt := 70) rfl (by decide +kernel) (by decide) (fun h33 => have f34 := F.1 h33
  WP.aload_n (pc2 := 71) (i := 0) rfl (by decide +kernel) rfl <|
  WP.getR (pc2 := 74) rfl (by decide +kernel) zc_11 zSh_1 (by decide) rfl lf_X11_26 rfl (rs_1_2 hR) <|
  WP.aload_n (pc2 := 75) (i := 0) rfl (by decide +kernel) rfl <|
  WP.getI (pc2 := 78) rfl (by decide +kernel) zc_11 zSh_1 (by decide) rfl lf_X11_109 rfl rfl <|
  WP.callV (y := mX11_takeMessages) (index := 288) (pc2 := 81) (y' := mX5_forgetCome) (vs := [.inl (hi 1 0 9)]) rfl (by decide +kernel) okX5_forgetCome ⟨by decide, by decide⟩ ⟨lm_X11_288, ivX5_forgetCome⟩ zSh_7 zc_5 (Nat.le_of_ble_eq_true rfl) ⟨rfl, rfl⟩ rfl (WP.c2v f34 (fun hi21 hr22 f23 =>
  have hRxhr22 := f23.1
  WP.vret (by decide +kernel) rfl ⟨rfl, trivial, f23.2⟩))) (fun h33 => have f35 := F.2 h33
  WP.aload_n (pc2 := 43) (i := 0) rfl (by decide +kernel) rfl <|
  WP.getR (pc2 := 46) rfl (by decide +kernel) zc_11 zSh_1 (by decide) rfl lf_X11_26 rfl (rs_1_2 hR) <|
  WP.iload_n (pc2 := 47) (i := 1) rfl (by decide +kernel) rfl <|
  WP.aload_n (pc2 := 48) (i := 0) rfl (by decide +kernel) rfl <|
  WP.getI (pc2 := 51) rfl (by decide +kernel) zc_11 zSh_1 (by decide) rfl lf_X11_109 rfl rfl <|
  WP.callV (y := mX11_takeMessages) (index := 280) (pc2 := 54) (y' := mX5_comingAt) (vs := [.inl a1, .inl (hi 1 0 9)]) rfl (by decide +kernel) okX5_comingAt ⟨by decide, by decide⟩ ⟨lm_X11_280, ivX5_comingAt⟩ zSh_7 zc_5 (Nat.le_of_ble_eq_true rfl) ⟨rfl, rfl⟩ rfl (WP.c0r f35 (fun o24 f32 =>
  WP.astore_n (pc2 := 55) (i := 2) rfl (by decide +kernel) (by decide) <|
  WP.aload_n (pc2 := 56) (i := 2) rfl (by decide +kernel) rfl <|
  WP.ifnull (pc2 := 59) (off := 8) (tgt := 64) rfl (by decide +kernel) (by decide) (fun e31 => have f28 := f32.1 e31
  by subst e31; exact WP.iinc (pc2 := 67) (i := 1) (d := 1) rfl (by decide +kernel) rfl f28.1 <|
  WP.goto (off := -36) (tgt := 31) (by decide +kernel) (by decide) <|
  f28.2) (fun w30 e31 => Exists.elim (f32.2 w30 e31) (fun q25 f29x => by
  obtain ⟨rfl, f29⟩ := f29x
  subst e31
  exact WP.aload_n (pc2 := 60) (i := 0) rfl (by decide +kernel) rfl <|
  WP.aload_n (pc2 := 61) (i := 2) rfl (by decide +kernel) rfl <|
  WP.callV (y := mX11_takeMessages) (index := 284) (pc2 := 64) (y' := mX11_deliver) (vs := [.inr (some (10, q25))]) rfl (by decide +kernel) okX11_deliver ⟨by decide, by decide⟩ ⟨lm_X11_284, ivX11_deliver⟩ zSh_1 zc_11 (Nat.le_of_ble_eq_true rfl) ⟨rfl, rfl⟩ rfl (WP.c1v f29 (fun hi26 f27 =>
  WP.iinc (pc2 := 67) (i := 1) (d := 1) rfl (by decide +kernel) rfl f27.1 <|
  WP.goto (off := -36) (tgt := 31) (by decide +kernel) (by decide) <|
  f27.2)))))))
set_option maxRecDepth 100000 in
set_option maxHeartbeats 4000000 in
theorem GX11_deliver {hi : zI} {hr : zR} {P : zI → Prop} (hR : RSc hr) (j1 : Int) (hj1 : 0 ≤ j1 ∧ j1 < 64)
    (F : W0r mX11_vehicleAt [.inr (some (1, 0)), .inl (hi 10 j1 1)] hi hr (fun (o1 : Option (Nat × Int)) => W0r mX1_accountAt [.inr (some (17, 0)), .inl (hi 10 j1 1)] hi hr (fun (o2 : Option (Nat × Int)) => (o1 = none → P hi) ∧ (∀ w, o1 = some w → ∃ q3 : Int, w = (36, q3) ∧ ((o2 = none → P hi) ∧ (∀ w, o2 = some w → ∃ q4 : Int, w = (24, q4) ∧ ((hi 10 j1 0 = 0 → (W1v mX0_learn [.inr (some (24, q4)), .inr (some (10, j1))] hi hr (fun (hi5 : zI) => P hi5))) ∧ (hi 10 j1 0 ≠ 0 → (W1v mX9_hear [.inr (some (36, q3)), .inr (some (10, j1))] hi hr (fun (hi7 : zI) => P hi7)))))))))) :
    W1v mX11_deliver [.inr (some (1, 0)), .inr (some (10, j1))] hi hr P :=
  WPm.of rfl (show WP mX11_deliver 0 [some (.inr (some (1, 0))), some (.inr (some (10, j1))), none, none] [] hi hr (zQ1v hr P) from
  WP.aload_n (pc2 := 1) (i := 0) rfl (by decide +kernel) rfl <|
  WP.aload_n (pc2 := 2) (i := 1) rfl (by decide +kernel) rfl <|
  WP.getI (pc2 := 5) rfl (by decide +kernel) zc_3 zSh_10 (by decide) rfl lf_X11_291 rfl rfl <|
  WP.callV (y := mX11_deliver) (index := 154) (pc2 := 8) (y' := mX11_vehicleAt) (vs := [.inl (hi 10 j1 1)]) rfl (by decide +kernel) okX11_vehicleAt ⟨by decide, by decide⟩ ⟨lm_X11_154, ivX11_vehicleAt⟩ zSh_1 zc_11 (Nat.le_of_ble_eq_true rfl) ⟨rfl, rfl⟩ rfl (WP.c0r F (fun o1 f21 =>
  WP.astore_n (pc2 := 9) (i := 2) rfl (by decide +kernel) (by decide) <|
  WP.aload_n (pc2 := 10) (i := 0) rfl (by decide +kernel) rfl <|
  WP.getR (pc2 := 13) rfl (by decide +kernel) zc_11 zSh_1 (by decide) rfl lf_X11_40 rfl (rs_1_4 hR) <|
  WP.aload_n (pc2 := 14) (i := 1) rfl (by decide +kernel) rfl <|
  WP.getI (pc2 := 17) rfl (by decide +kernel) zc_3 zSh_10 (by decide) rfl lf_X11_291 rfl rfl <|
  WP.callV (y := mX11_deliver) (index := 158) (pc2 := 20) (y' := mX1_accountAt) (vs := [.inl (hi 10 j1 1)]) rfl (by decide +kernel) okX1_accountAt ⟨by decide, by decide⟩ ⟨lm_X11_158, ivX1_accountAt⟩ zSh_17 zc_1 (Nat.le_of_ble_eq_true rfl) ⟨rfl, rfl⟩ rfl (WP.c0r f21 (fun o2 f20 =>
  WP.astore_n (pc2 := 21) (i := 3) rfl (by decide +kernel) (by decide) <|
  WP.aload_n (pc2 := 22) (i := 2) rfl (by decide +kernel) rfl <|
  WP.ifnull (pc2 := 25) (off := 7) (tgt := 29) rfl (by decide +kernel) (by decide) (fun e19 => have f16 := f20.1 e19
  by subst e19; exact WP.vret (by decide +kernel) rfl ⟨rfl, rfl, f16⟩) (fun w18 e19 => Exists.elim (f20.2 w18 e19) (fun q3 f17x => by
  obtain ⟨rfl, f17⟩ := f17x
  subst e19
  exact WP.aload_n (pc2 := 26) (i := 3) rfl (by decide +kernel) rfl <|
  WP.ifnonnull (pc2 := 29) (off := 4) (tgt := 30) rfl (by decide +kernel) (by decide) (fun w14 e15 => Exists.elim (f17.2 w14 e15) (fun q4 f13x => by
  obtain ⟨rfl, f13⟩ := f13x
  subst e15
  exact WP.aload_n (pc2 := 31) (i := 1) rfl (by decide +kernel) rfl <|
  WP.getI (pc2 := 34) rfl (by decide +kernel) zc_3 zSh_10 (by decide) rfl lf_X11_296 rfl rfl <|
  WP.if_eq (pc2 := 37) (off := 11) (tgt := 45) rfl (by decide +kernel) (by decide) (fun h9 => have f10 := f13.1 h9
  WP.aload_n (pc2 := 46) (i := 3) rfl (by decide +kernel) rfl <|
  WP.aload_n (pc2 := 47) (i := 1) rfl (by decide +kernel) rfl <|
  WP.callV (y := mX11_deliver) (index := 302) (pc2 := 50) (y' := mX0_learn) (vs := [.inr (some (10, j1))]) rfl (by decide +kernel) okX0_learn ⟨by decide, by decide⟩ ⟨lm_X11_302, ivX0_learn⟩ zSh_24 zc_0 (Nat.le_of_ble_eq_true rfl) ⟨rfl, rfl⟩ rfl (WP.c1v f10 (fun hi5 f6 =>
  WP.vret (by decide +kernel) rfl ⟨rfl, rfl, f6⟩))) (fun h9 => have f11 := f13.2 h9
  WP.aload_n (pc2 := 38) (i := 2) rfl (by decide +kernel) rfl <|
  WP.aload_n (pc2 := 39) (i := 1) rfl (by decide +kernel) rfl <|
  WP.callV (y := mX11_deliver) (index := 299) (pc2 := 42) (y' := mX9_hear) (vs := [.inr (some (10, j1))]) rfl (by decide +kernel) okX9_hear ⟨by decide, by decide⟩ ⟨lm_X11_299, ivX9_hear⟩ zSh_36 zc_9 (Nat.le_of_ble_eq_true rfl) ⟨rfl, rfl⟩ rfl (WP.c1v f11 (fun hi7 f8 =>
  WP.goto (off := 8) (tgt := 50) (by decide +kernel) (by decide) <|
  WP.vret (by decide +kernel) rfl ⟨rfl, rfl, f8⟩))))) (fun e15 => have f12 := f17.1 e15
  by subst e15; exact WP.vret (by decide +kernel) rfl ⟨rfl, rfl, f12⟩))))))))
set_option maxRecDepth 100000 in
set_option maxHeartbeats 4000000 in
theorem GX11_driveVehicles {hi : zI} {hr : zR} {P : zI → Prop}  
    (F : WP mX11_driveVehicles 2 [some (.inr (some (1, 0))), some (.inl 0), none, none] [] hi hr (zQ1v hr P)) :
    W1v mX11_driveVehicles [.inr (some (1, 0))] hi hr P :=
  WPm.of rfl (show WP mX11_driveVehicles 0 [some (.inr (some (1, 0))), none, none, none] [] hi hr (zQ1v hr P) from
  WP.iconst (pc2 := 1) (x := 0) rfl (by decide +kernel) (by decide) <|
  WP.istore_n (pc2 := 2) (i := 1) rfl (by decide +kernel) (by decide) <|
  F)

set_option maxRecDepth 100000 in
set_option maxHeartbeats 4000000 in
theorem GX11_driveVehicles_2 {hi : zI} {hr : zR} {P : zI → Prop} (hR : RSc hr) (a1 : Int) (u2 : Option zV) (u3 : Option zV) 
    (F : ∃ j40 : Int, hr 1 0 6 = some (30, j40) ∧ (0 ≤ j40 ∧ j40 < 2) ∧ ((hi 30 j40 8 ≤ a1 → P hi) ∧ (a1 < hi 30 j40 8 → (W0r mX11_vehicleAt [.inr (some (1, 0)), .inl a1] hi hr (fun (o42 : Option (Nat × Int)) => (o42 = none → ((zInR (a1 + 1)) ∧ (WP mX11_driveVehicles 2 [some (.inr (some (1, 0))), some (.inl (a1 + 1)), some (.inr none), u3] [] hi hr (zQ1v hr P)))) ∧ (∀ w, o42 = some w → ∃ q43 : Int, w = (36, q43) ∧ (W1i mX9_obey [.inr (some (36, q43))] hi hr (fun (x44 : Int) (hi45 : zI) => (x44 = 0 → ((x44 ≠ 0 → (W1v mX5_send [.inr (some (7, 0)), .inl (hi45 1 0 9), .inl 0, .inl a1, .inl (hi45 36 q43 1), .inl (hi45 36 q43 2), .inl (-1)] hi45 hr (fun (hi46 : zI) => (zInR (a1 + 1)) ∧ (WP mX11_driveVehicles 2 [some (.inr (some (1, 0))), some (.inl (a1 + 1)), some (.inr (some (36, q43))), some (.inl x44)] [] hi46 hr (zQ1v hr P))))) ∧ (x44 = 0 → ((0 ≤ hi45 1 0 9) ∧ (((hi45 1 0 9) % 2 ≠ 0 → ((zInR (a1 + 1)) ∧ (WP mX11_driveVehicles 2 [some (.inr (some (1, 0))), some (.inl (a1 + 1)), some (.inr (some (36, q43))), some (.inl x44)] [] hi45 hr (zQ1v hr P)))) ∧ ((hi45 1 0 9) % 2 = 0 → (W1v mX5_send [.inr (some (7, 0)), .inl (hi45 1 0 9), .inl 0, .inl a1, .inl (hi45 36 q43 1), .inl (hi45 36 q43 2), .inl (-1)] hi45 hr (fun (hi48 : zI) => (zInR (a1 + 1)) ∧ (WP mX11_driveVehicles 2 [some (.inr (some (1, 0))), some (.inl (a1 + 1)), some (.inr (some (36, q43))), some (.inl x44)] [] hi48 hr (zQ1v hr P)))))))))) ∧ (x44 ≠ 0 → ((zInR ((hi45 1 0 10) + 1)) ∧ ((x44 ≠ 0 → (W1v mX5_send [.inr (some (7, 0)), .inl (hi45 1 0 9), .inl 0, .inl a1, .inl (hi45 36 q43 1), .inl (hi45 36 q43 2), .inl (-1)] (zup hi45 1 0 10 ((hi45 1 0 10) + 1)) hr (fun (hi56 : zI) => (zInR (a1 + 1)) ∧ (WP mX11_driveVehicles 2 [some (.inr (some (1, 0))), some (.inl (a1 + 1)), some (.inr (some (36, q43))), some (.inl x44)] [] hi56 hr (zQ1v hr P))))) ∧ (x44 = 0 → ((0 ≤ hi45 1 0 9) ∧ (((hi45 1 0 9) % 2 ≠ 0 → ((zInR (a1 + 1)) ∧ (WP mX11_driveVehicles 2 [some (.inr (some (1, 0))), some (.inl (a1 + 1)), some (.inr (some (36, q43))), some (.inl x44)] [] (zup hi45 1 0 10 ((hi45 1 0 10) + 1)) hr (zQ1v hr P)))) ∧ ((hi45 1 0 9) % 2 = 0 → (W1v mX5_send [.inr (some (7, 0)), .inl (hi45 1 0 9), .inl 0, .inl a1, .inl (hi45 36 q43 1), .inl (hi45 36 q43 2), .inl (-1)] (zup hi45 1 0 10 ((hi45 1 0 10) + 1)) hr (fun (hi58 : zI) => (zInR (a1 + 1)) ∧ (WP mX11_driveVehicles 2 [some (.inr (some (1, 0))), some (.inl (a1 + 1)), some (.inr (some (36, q43))), some (.inl x44)] [] hi58 hr (zQ1v hr P))))))))))))))))))) :
    WP mX11_driveVehicles 2 [some (.inr (some (1, 0))), some (.inl a1), u2, u3] [] hi hr (zQ1v hr P) :=
  WP.iload_n (pc2 := 3) (i := 1) rfl (by decide +kernel) rfl <|
  WP.aload_n (pc2 := 4) (i := 0) rfl (by decide +kernel) rfl <|
  Exists.elim F (fun j40 f78 => have e41 := f78.1; have e41r := f78.2.1
  WP.getR (pc2 := 7) rfl (by decide +kernel) zc_11 zSh_1 (by decide) rfl lf_X11_53 rfl e41 <|
  WP.getI (pc2 := 10) rfl (by decide +kernel) zc_10 zSh_30 (by decide) rfl lf_X11_203 rfl rfl <|
  WP.icmp_ge (pc2 := 13) (off := 76) (tgt := 86) rfl (by decide +kernel) (by decide) (fun h75 => have f76 := f78.2.2.1 h75
  WP.vret (by decide +kernel) rfl ⟨rfl, rfl, f76⟩) (fun h75 => have f77 := f78.2.2.2 h75
  WP.aload_n (pc2 := 14) (i := 0) rfl (by decide +kernel) rfl <|
  WP.iload_n (pc2 := 15) (i := 1) rfl (by decide +kernel) rfl <|
  WP.callV (y := mX11_driveVehicles) (index := 154) (pc2 := 18) (y' := mX11_vehicleAt) (vs := [.inl a1]) rfl (by decide +kernel) okX11_vehicleAt ⟨by decide, by decide⟩ ⟨lm_X11_154, ivX11_vehicleAt⟩ zSh_1 zc_11 (Nat.le_of_ble_eq_true rfl) ⟨rfl, rfl⟩ rfl (WP.c0r f77 (fun o42 f74 =>
  WP.astore_n (pc2 := 19) (i := 2) rfl (by decide +kernel) (by decide) <|
  WP.aload_n (pc2 := 20) (i := 2) rfl (by decide +kernel) rfl <|
  WP.ifnonnull (pc2 := 23) (off := 6) (tgt := 26) rfl (by decide +kernel) (by decide) (fun w72 e73 => Exists.elim (f74.2 w72 e73) (fun q43 f71x => by
  obtain ⟨rfl, f71⟩ := f71x
  subst e73
  exact WP.aload_n (pc2 := 27) (i := 2) rfl (by decide +kernel) rfl <|
  WP.callV (y := mX11_driveVehicles) (index := 305) (pc2 := 30) (y' := mX9_obey) (vs := []) rfl (by decide +kernel) okX9_obey ⟨by decide, by decide⟩ ⟨lm_X11_305, ivX9_obey⟩ zSh_36 zc_9 (Nat.le_of_ble_eq_true rfl) ⟨rfl, rfl⟩ rfl (WP.c1i f71 (fun x44 hi45 _ f69 =>
  WP.istore_n (pc2 := 31) (i := 3) rfl (by decide +kernel) (by decide) <|
  WP.iload_n (pc2 := 32) (i := 3) rfl (by decide +kernel) rfl <|
  WP.if_eq (pc2 := 35) (off := 13) (tgt := 45) rfl (by decide +kernel) (by decide) (fun h66 => have f67 := f69.1 h66
  WP.iload_n (pc2 := 46) (i := 3) rfl (by decide +kernel) rfl <|
  WP.if_ne (pc2 := 49) (off := 12) (tgt := 58) rfl (by decide +kernel) (by decide) (fun h53 => have f54 := f67.1 h53
  WP.aload_n (pc2 := 59) (i := 0) rfl (by decide +kernel) rfl <|
  WP.getR (pc2 := 62) rfl (by decide +kernel) zc_11 zSh_1 (by decide) rfl lf_X11_26 rfl (rs_1_2 hR) <|
  WP.aload_n (pc2 := 63) (i := 0) rfl (by decide +kernel) rfl <|
  WP.getI (pc2 := 66) rfl (by decide +kernel) zc_11 zSh_1 (by decide) rfl lf_X11_109 rfl rfl <|
  WP.iconst (pc2 := 67) (x := 0) rfl (by decide +kernel) (by decide) <|
  WP.iload_n (pc2 := 68) (i := 1) rfl (by decide +kernel) rfl <|
  WP.aload_n (pc2 := 69) (i := 2) rfl (by decide +kernel) rfl <|
  WP.getI (pc2 := 72) rfl (by decide +kernel) zc_9 zSh_36 (by decide) rfl lf_X11_242 rfl rfl <|
  WP.aload_n (pc2 := 73) (i := 2) rfl (by decide +kernel) rfl <|
  WP.getI (pc2 := 76) rfl (by decide +kernel) zc_9 zSh_36 (by decide) rfl lf_X11_243 rfl rfl <|
  WP.iconst (pc2 := 77) (x := -1) rfl (by decide +kernel) (by decide) <|
  WP.callV (y := mX11_driveVehicles) (index := 308) (pc2 := 80) (y' := mX5_send) (vs := [.inl (hi45 1 0 9), .inl 0, .inl a1, .inl (hi45 36 q43 1), .inl (hi45 36 q43 2), .inl (-1)]) rfl (by decide +kernel) okX5_send ⟨by decide, by decide⟩ ⟨lm_X11_308, ivX5_send⟩ zSh_7 zc_5 (Nat.le_of_ble_eq_true rfl) ⟨rfl, rfl⟩ rfl (WP.c1v f54 (fun hi46 f47 =>
  WP.iinc (pc2 := 83) (i := 1) (d := 1) rfl (by decide +kernel) rfl f47.1 <|
  WP.goto (off := -81) (tgt := 2) (by decide +kernel) (by decide) <|
  f47.2))) (fun h53 => have f55 := f67.2 h53
  WP.aload_n (pc2 := 50) (i := 0) rfl (by decide +kernel) rfl <|
  WP.getI (pc2 := 53) rfl (by decide +kernel) zc_11 zSh_1 (by decide) rfl lf_X11_109 rfl rfl <|
  WP.iconst (pc2 := 54) (x := 2) rfl (by decide +kernel) (by decide) <|
  WP.irem (pc2 := 55) rfl (by decide +kernel) f55.1 (by decide) <|
  WP.if_ne (pc2 := 58) (off := 25) (tgt := 80) rfl (by decide +kernel) (by decide) (fun h50 => have f51 := f55.2.1 h50
  WP.iinc (pc2 := 83) (i := 1) (d := 1) rfl (by decide +kernel) rfl f51.1 <|
  WP.goto (off := -81) (tgt := 2) (by decide +kernel) (by decide) <|
  f51.2) (fun h50 => have f52 := f55.2.2 h50
  WP.aload_n (pc2 := 59) (i := 0) rfl (by decide +kernel) rfl <|
  WP.getR (pc2 := 62) rfl (by decide +kernel) zc_11 zSh_1 (by decide) rfl lf_X11_26 rfl (rs_1_2 hR) <|
  WP.aload_n (pc2 := 63) (i := 0) rfl (by decide +kernel) rfl <|
  WP.getI (pc2 := 66) rfl (by decide +kernel) zc_11 zSh_1 (by decide) rfl lf_X11_109 rfl rfl <|
  WP.iconst (pc2 := 67) (x := 0) rfl (by decide +kernel) (by decide) <|
  WP.iload_n (pc2 := 68) (i := 1) rfl (by decide +kernel) rfl <|
  WP.aload_n (pc2 := 69) (i := 2) rfl (by decide +kernel) rfl <|
  WP.getI (pc2 := 72) rfl (by decide +kernel) zc_9 zSh_36 (by decide) rfl lf_X11_242 rfl rfl <|
  WP.aload_n (pc2 := 73) (i := 2) rfl (by decide +kernel) rfl <|
  WP.getI (pc2 := 76) rfl (by decide +kernel) zc_9 zSh_36 (by decide) rfl lf_X11_243 rfl rfl <|
  WP.iconst (pc2 := 77) (x := -1) rfl (by decide +kernel) (by decide) <|
  WP.callV (y := mX11_driveVehicles) (index := 308) (pc2 := 80) (y' := mX5_send) (vs := [.inl (hi45 1 0 9), .inl 0, .inl a1, .inl (hi45 36 q43 1), .inl (hi45 36 q43 2), .inl (-1)]) rfl (by decide +kernel) okX5_send ⟨by decide, by decide⟩ ⟨lm_X11_308, ivX5_send⟩ zSh_7 zc_5 (Nat.le_of_ble_eq_true rfl) ⟨rfl, rfl⟩ rfl (WP.c1v f52 (fun hi48 f49 =>
  WP.iinc (pc2 := 83) (i := 1) (d := 1) rfl (by decide +kernel) rfl f49.1 <|
  WP.goto (off := -81) (tgt := 2) (by decide +kernel) (by decide) <|
  f49.2))))) (fun h66 => have f68 := f69.2 h66
  WP.aload_n (pc2 := 36) (i := 0) rfl (by decide +kernel) rfl <|
  WP.dup (pc2 := 37) rfl (by decide +kernel) <|
  WP.getI (pc2 := 40) rfl (by decide +kernel) zc_11 zSh_1 (by decide) rfl lf_X11_224 rfl rfl <|
  WP.iconst (pc2 := 41) (x := 1) rfl (by decide +kernel) (by decide) <|
  WP.iadd (pc2 := 42) rfl (by decide +kernel) f68.1 <|
  WP.putI (pc2 := 45) rfl (by decide +kernel) zc_11 zSh_1 (by decide) rfl lf_X11_224 rfl (z_int _) rfl <|
  WP.iload_n (pc2 := 46) (i := 3) rfl (by decide +kernel) rfl <|
  WP.if_ne (pc2 := 49) (off := 12) (tgt := 58) rfl (by decide +kernel) (by decide) (fun h63 => have f64 := f68.2.1 h63
  WP.aload_n (pc2 := 59) (i := 0) rfl (by decide +kernel) rfl <|
  WP.getR (pc2 := 62) rfl (by decide +kernel) zc_11 zSh_1 (by decide) rfl lf_X11_26 rfl (rs_1_2 hR) <|
  WP.aload_n (pc2 := 63) (i := 0) rfl (by decide +kernel) rfl <|
  WP.getI (pc2 := 66) rfl (by decide +kernel) zc_11 zSh_1 (by decide) rfl lf_X11_109 rfl (zup_f _ _ _ _ _ _ (by decide)) <|
  WP.iconst (pc2 := 67) (x := 0) rfl (by decide +kernel) (by decide) <|
  WP.iload_n (pc2 := 68) (i := 1) rfl (by decide +kernel) rfl <|
  WP.aload_n (pc2 := 69) (i := 2) rfl (by decide +kernel) rfl <|
  WP.getI (pc2 := 72) rfl (by decide +kernel) zc_9 zSh_36 (by decide) rfl lf_X11_242 rfl (zup_k _ _ _ _ _ _ (by decide)) <|
  WP.aload_n (pc2 := 73) (i := 2) rfl (by decide +kernel) rfl <|
  WP.getI (pc2 := 76) rfl (by decide +kernel) zc_9 zSh_36 (by decide) rfl lf_X11_243 rfl (zup_k _ _ _ _ _ _ (by decide)) <|
  WP.iconst (pc2 := 77) (x := -1) rfl (by decide +kernel) (by decide) <|
  WP.callV (y := mX11_driveVehicles) (index := 308) (pc2 := 80) (y' := mX5_send) (vs := [.inl (hi45 1 0 9), .inl 0, .inl a1, .inl (hi45 36 q43 1), .inl (hi45 36 q43 2), .inl (-1)]) rfl (by decide +kernel) okX5_send ⟨by decide, by decide⟩ ⟨lm_X11_308, ivX5_send⟩ zSh_7 zc_5 (Nat.le_of_ble_eq_true rfl) ⟨rfl, rfl⟩ rfl (WP.c1v f64 (fun hi56 f57 =>
  WP.iinc (pc2 := 83) (i := 1) (d := 1) rfl (by decide +kernel) rfl f57.1 <|
  WP.goto (off := -81) (tgt := 2) (by decide +kernel) (by decide) <|
  f57.2))) (fun h63 => have f65 := f68.2.2 h63
  WP.aload_n (pc2 := 50) (i := 0) rfl (by decide +kernel) rfl <|
  WP.getI (pc2 := 53) rfl (by decide +kernel) zc_11 zSh_1 (by decide) rfl lf_X11_109 rfl (zup_f _ _ _ _ _ _ (by decide)) <|
  WP.iconst (pc2 := 54) (x := 2) rfl (by decide +kernel) (by decide) <|
  WP.irem (pc2 := 55) rfl (by decide +kernel) f65.1 (by decide) <|
  WP.if_ne (pc2 := 58) (off := 25) (tgt := 80) rfl (by decide +kernel) (by decide) (fun h60 => have f61 := f65.2.1 h60
  WP.iinc (pc2 := 83) (i := 1) (d := 1) rfl (by decide +kernel) rfl f61.1 <|
  WP.goto (off := -81) (tgt := 2) (by decide +kernel) (by decide) <|
  f61.2) (fun h60 => have f62 := f65.2.2 h60
  WP.aload_n (pc2 := 59) (i := 0) rfl (by decide +kernel) rfl <|
  WP.getR (pc2 := 62) rfl (by decide +kernel) zc_11 zSh_1 (by decide) rfl lf_X11_26 rfl (rs_1_2 hR) <|
  WP.aload_n (pc2 := 63) (i := 0) rfl (by decide +kernel) rfl <|
  WP.getI (pc2 := 66) rfl (by decide +kernel) zc_11 zSh_1 (by decide) rfl lf_X11_109 rfl (zup_f _ _ _ _ _ _ (by decide)) <|
  WP.iconst (pc2 := 67) (x := 0) rfl (by decide +kernel) (by decide) <|
  WP.iload_n (pc2 := 68) (i := 1) rfl (by decide +kernel) rfl <|
  WP.aload_n (pc2 := 69) (i := 2) rfl (by decide +kernel) rfl <|
  WP.getI (pc2 := 72) rfl (by decide +kernel) zc_9 zSh_36 (by decide) rfl lf_X11_242 rfl (zup_k _ _ _ _ _ _ (by decide)) <|
  WP.aload_n (pc2 := 73) (i := 2) rfl (by decide +kernel) rfl <|
  WP.getI (pc2 := 76) rfl (by decide +kernel) zc_9 zSh_36 (by decide) rfl lf_X11_243 rfl (zup_k _ _ _ _ _ _ (by decide)) <|
  WP.iconst (pc2 := 77) (x := -1) rfl (by decide +kernel) (by decide) <|
  WP.callV (y := mX11_driveVehicles) (index := 308) (pc2 := 80) (y' := mX5_send) (vs := [.inl (hi45 1 0 9), .inl 0, .inl a1, .inl (hi45 36 q43 1), .inl (hi45 36 q43 2), .inl (-1)]) rfl (by decide +kernel) okX5_send ⟨by decide, by decide⟩ ⟨lm_X11_308, ivX5_send⟩ zSh_7 zc_5 (Nat.le_of_ble_eq_true rfl) ⟨rfl, rfl⟩ rfl (WP.c1v f62 (fun hi58 f59 =>
  WP.iinc (pc2 := 83) (i := 1) (d := 1) rfl (by decide +kernel) rfl f59.1 <|
  WP.goto (off := -81) (tgt := 2) (by decide +kernel) (by decide) <|
  f59.2))))))))) (fun e73 => have f70 := f74.1 e73
  by subst e73; exact WP.goto (off := 57) (tgt := 80) (by decide +kernel) (by decide) <|
  WP.iinc (pc2 := 83) (i := 1) (d := 1) rfl (by decide +kernel) rfl f70.1 <|
  WP.goto (off := -81) (tgt := 2) (by decide +kernel) (by decide) <|
  f70.2)))))
set_option maxRecDepth 100000 in
set_option maxHeartbeats 4000000 in
theorem GX5_clear {hi : zI} {hr : zR} {P : zI → Prop}  
    (F : W1i mX5_clearFates [.inr (some (7, 0)), .inl 1] hi hr (fun (x1 : Int) (hi2 : zI) => P (zup (zup (zup hi2 7 0 3 0) 7 0 4 0) 7 0 5 0))) :
    W1v mX5_clear [.inr (some (7, 0))] hi hr P :=
  WPm.of rfl (show WP mX5_clear 0 [some (.inr (some (7, 0)))] [] hi hr (zQ1v hr P) from
  WP.aload_n (pc2 := 1) (i := 0) rfl (by decide +kernel) rfl <|
  WP.iconst (pc2 := 2) (x := 1) rfl (by decide +kernel) (by decide) <|
  WP.callV (y := mX5_clear) (index := 24) (pc2 := 5) (y' := mX5_clearFates) (vs := [.inl 1]) rfl (by decide +kernel) okX5_clearFates ⟨by decide, by decide⟩ ⟨lm_X5_24, ivX5_clearFates⟩ zSh_7 zc_5 (Nat.le_of_ble_eq_true rfl) ⟨rfl, rfl⟩ rfl (WP.c1i F (fun x1 hi2 _ f3 =>
  WP.pop (pc2 := 6) rfl (by decide +kernel) <|
  WP.aload_n (pc2 := 7) (i := 0) rfl (by decide +kernel) rfl <|
  WP.iconst (pc2 := 8) (x := 0) rfl (by decide +kernel) (by decide) <|
  WP.putI (pc2 := 11) rfl (by decide +kernel) zc_5 zSh_7 (by decide) rfl lf_X5_28 rfl (z_int _) rfl <|
  WP.aload_n (pc2 := 12) (i := 0) rfl (by decide +kernel) rfl <|
  WP.iconst (pc2 := 13) (x := 0) rfl (by decide +kernel) (by decide) <|
  WP.putI (pc2 := 16) rfl (by decide +kernel) zc_5 zSh_7 (by decide) rfl lf_X5_31 rfl (z_int _) rfl <|
  WP.aload_n (pc2 := 17) (i := 0) rfl (by decide +kernel) rfl <|
  WP.iconst (pc2 := 18) (x := 0) rfl (by decide +kernel) (by decide) <|
  WP.putI (pc2 := 21) rfl (by decide +kernel) zc_5 zSh_7 (by decide) rfl lf_X5_34 rfl (z_int _) rfl <|
  WP.vret (by decide +kernel) rfl ⟨rfl, rfl, f3⟩)))
set_option maxRecDepth 100000 in
set_option maxHeartbeats 4000000 in
theorem GX5_clearFates {hi : zI} {hr : zR} {P : Int → zI → Prop} (hR : RSc hr) (l1 : Int) 
    (F : (l1 < 1 → P 0 hi) ∧ (1 ≤ l1 → ((l1 ≤ 64 → (W1v mJ7_fill_53178 [.inr (some (8, 0)), .inl 0] hi hr (fun (hi1 : zI) => P 1 (zup hi1 7 0 2 l1)))) ∧ (64 < l1 → P 0 hi)))) :
    W1i mX5_clearFates [.inr (some (7, 0)), .inl l1] hi hr P :=
  WPm.of rfl (show WP mX5_clearFates 0 [some (.inr (some (7, 0))), some (.inl l1)] [] hi hr (zQ1i hr P) from
  WP.iload_n (pc2 := 1) (i := 1) rfl (by decide +kernel) rfl <|
  WP.iconst (pc2 := 2) (x := 1) rfl (by decide +kernel) (by decide) <|
  WP.icmp_lt (pc2 := 5) (off := 9) (tgt := 11) rfl (by decide +kernel) (by decide) (fun h6 => have f7 := F.1 h6
  WP.iconst (pc2 := 12) (x := 0) rfl (by decide +kernel) (by decide) <|
  WP.zret (by decide +kernel) rfl (by decide) (fun hx => ⟨_, rfl, hx, rfl, f7⟩)) (fun h6 => have f8 := F.2 h6
  WP.iload_n (pc2 := 6) (i := 1) rfl (by decide +kernel) rfl <|
  WP.bipush (pc2 := 8) (x := 64) rfl (by decide +kernel) ⟨by decide +kernel, by decide⟩ <|
  WP.icmp_le (pc2 := 11) (off := 5) (tgt := 13) rfl (by decide +kernel) (by decide) (fun h3 => have f4 := f8.1 h3
  WP.aload_n (pc2 := 14) (i := 0) rfl (by decide +kernel) rfl <|
  WP.getR (pc2 := 17) rfl (by decide +kernel) zc_5 zSh_7 (by decide) rfl lf_X5_9 rfl (rs_7_0 hR) <|
  WP.iconst (pc2 := 18) (x := 0) rfl (by decide +kernel) (by decide) <|
  WP.callS (y := mX5_clearFates) (index := 37) (pc2 := 21) (y' := mJ7_fill_53178) (vs := [.inr (some (8, 0)), .inl 0]) rfl (by decide +kernel) okJ7_fill_53178 ⟨by decide, by decide⟩ ⟨lm_X5_37, ivJ7_fill_53178⟩ (Nat.le_of_ble_eq_true rfl) ⟨rfl, rfl⟩ rfl (WP.c1v f4 (fun hi1 f2 =>
  WP.aload_n (pc2 := 22) (i := 0) rfl (by decide +kernel) rfl <|
  WP.iload_n (pc2 := 23) (i := 1) rfl (by decide +kernel) rfl <|
  WP.putI (pc2 := 26) rfl (by decide +kernel) zc_5 zSh_7 (by decide) rfl lf_X5_19 rfl (z_int _) rfl <|
  WP.iconst (pc2 := 27) (x := 1) rfl (by decide +kernel) (by decide) <|
  WP.zret (by decide +kernel) rfl (by decide) (fun hx => ⟨_, rfl, hx, rfl, f2⟩)))) (fun h3 => have f5 := f8.2 h3
  WP.iconst (pc2 := 12) (x := 0) rfl (by decide +kernel) (by decide) <|
  WP.zret (by decide +kernel) rfl (by decide) (fun hx => ⟨_, rfl, hx, rfl, f5⟩))))
set_option maxRecDepth 100000 in
set_option maxHeartbeats 4000000 in
theorem GX5_setFate {hi : zI} {hr : zR} {P : Int → zI → Prop} (hR : RSc hr) (l1 : Int) (l2 : Int) 
    (F : (l1 < 0 → P 0 hi) ∧ (0 ≤ l1 → ((hi 7 0 2 ≤ l1 → P 0 hi) ∧ (l1 < hi 7 0 2 → ((64 ≤ l1 → P 0 hi) ∧ (l1 < 64 → ((l2 < 0 → P 0 hi) ∧ (0 ≤ l2 → ((l2 ≤ 15 → ((0 ≤ l1 ∧ l1 < 64) ∧ (P 1 (zup hi 8 0 l1 l2)))) ∧ (15 < l2 → P 0 hi)))))))))) :
    W1i mX5_setFate [.inr (some (7, 0)), .inl l1, .inl l2] hi hr P :=
  WPm.of rfl (show WP mX5_setFate 0 [some (.inr (some (7, 0))), some (.inl l1), some (.inl l2)] [] hi hr (zQ1i hr P) from
  WP.iload_n (pc2 := 1) (i := 1) rfl (by decide +kernel) rfl <|
  WP.if_lt (pc2 := 4) (off := 27) (tgt := 28) rfl (by decide +kernel) (by decide) (fun h13 => have f14 := F.1 h13
  WP.iconst (pc2 := 29) (x := 0) rfl (by decide +kernel) (by decide) <|
  WP.zret (by decide +kernel) rfl (by decide) (fun hx => ⟨_, rfl, hx, rfl, f14⟩)) (fun h13 => have f15 := F.2 h13
  WP.iload_n (pc2 := 5) (i := 1) rfl (by decide +kernel) rfl <|
  WP.aload_n (pc2 := 6) (i := 0) rfl (by decide +kernel) rfl <|
  WP.getI (pc2 := 9) rfl (by decide +kernel) zc_5 zSh_7 (by decide) rfl lf_X5_19 rfl rfl <|
  WP.icmp_ge (pc2 := 12) (off := 19) (tgt := 28) rfl (by decide +kernel) (by decide) (fun h10 => have f11 := f15.1 h10
  WP.iconst (pc2 := 29) (x := 0) rfl (by decide +kernel) (by decide) <|
  WP.zret (by decide +kernel) rfl (by decide) (fun hx => ⟨_, rfl, hx, rfl, f11⟩)) (fun h10 => have f12 := f15.2 h10
  WP.iload_n (pc2 := 13) (i := 1) rfl (by decide +kernel) rfl <|
  WP.bipush (pc2 := 15) (x := 64) rfl (by decide +kernel) ⟨by decide +kernel, by decide⟩ <|
  WP.icmp_ge (pc2 := 18) (off := 13) (tgt := 28) rfl (by decide +kernel) (by decide) (fun h7 => have f8 := f12.1 h7
  WP.iconst (pc2 := 29) (x := 0) rfl (by decide +kernel) (by decide) <|
  WP.zret (by decide +kernel) rfl (by decide) (fun hx => ⟨_, rfl, hx, rfl, f8⟩)) (fun h7 => have f9 := f12.2 h7
  WP.iload_n (pc2 := 19) (i := 2) rfl (by decide +kernel) rfl <|
  WP.if_lt (pc2 := 22) (off := 9) (tgt := 28) rfl (by decide +kernel) (by decide) (fun h4 => have f5 := f9.1 h4
  WP.iconst (pc2 := 29) (x := 0) rfl (by decide +kernel) (by decide) <|
  WP.zret (by decide +kernel) rfl (by decide) (fun hx => ⟨_, rfl, hx, rfl, f5⟩)) (fun h4 => have f6 := f9.2 h4
  WP.iload_n (pc2 := 23) (i := 2) rfl (by decide +kernel) rfl <|
  WP.bipush (pc2 := 25) (x := 15) rfl (by decide +kernel) ⟨by decide +kernel, by decide⟩ <|
  WP.icmp_le (pc2 := 28) (off := 5) (tgt := 30) rfl (by decide +kernel) (by decide) (fun h1 => have f2 := f6.1 h1
  WP.aload_n (pc2 := 31) (i := 0) rfl (by decide +kernel) rfl <|
  WP.getR (pc2 := 34) rfl (by decide +kernel) zc_5 zSh_7 (by decide) rfl lf_X5_9 rfl (rs_7_0 hR) <|
  WP.iload_n (pc2 := 35) (i := 1) rfl (by decide +kernel) rfl <|
  WP.iload_n (pc2 := 36) (i := 2) rfl (by decide +kernel) rfl <|
  WP.iastore (pc2 := 37) rfl (by decide +kernel) zSh_8 rfl f2.1 <|
  WP.iconst (pc2 := 38) (x := 1) rfl (by decide +kernel) (by decide) <|
  WP.zret (by decide +kernel) rfl (by decide) (fun hx => ⟨_, rfl, hx, rfl, f2.2⟩)) (fun h1 => have f3 := f6.2 h1
  WP.iconst (pc2 := 29) (x := 0) rfl (by decide +kernel) (by decide) <|
  WP.zret (by decide +kernel) rfl (by decide) (fun hx => ⟨_, rfl, hx, rfl, f3⟩)))))))
set_option maxRecDepth 100000 in
set_option maxHeartbeats 4000000 in
theorem GX5_send {hi : zI} {hr : zR} {P : zI → Prop} (hR : RSc hr) (l1 : Int) (l2 : Int) (l3 : Int) (l4 : Int) (l5 : Int) (l6 : Int) 
    (F : W0i mX5_fateOfNext [.inr (some (7, 0))] hi hr (fun (x1 : Int) => (zInR ((hi 7 0 4) + 1)) ∧ ((zand x1 1 = 0 → ((hi 7 0 3 < 0 → (P (zup hi 7 0 4 ((hi 7 0 4) + 1)))) ∧ (0 ≤ hi 7 0 3 → ((hi 7 0 3 < 64 → ((0 ≤ hi 7 0 3 ∧ hi 7 0 3 < 64) ∧ ∃ j2 : Int, hr 9 0 (hi 7 0 3) = some (10, j2) ∧ (0 ≤ j2 ∧ j2 < 64) ∧ ((zInR ((hi 7 0 3) + 1)) ∧ ((l2 = 0 ∨ l2 = 1) ∧ ((zInR (l1 + 1)) ∧ ((zInR ((l1 + 1) + (zand (zshr x1 1) 3))) ∧ ((zand x1 8 = 0 → (P (zup (zup (zup (zup (zup (zup (zup (zup (zup hi 7 0 4 ((hi 7 0 4) + 1)) 7 0 3 ((hi 7 0 3) + 1)) 10 j2 0 l2) 10 j2 1 l3) 10 j2 2 l4) 10 j2 3 l5) 10 j2 4 l6) 10 j2 5 ((l1 + 1) + (zand (zshr x1 1) 3))) 10 j2 6 1))) ∧ (zand x1 8 ≠ 0 → (P (zup (zup (zup (zup (zup (zup (zup (zup (zup hi 7 0 4 ((hi 7 0 4) + 1)) 7 0 3 ((hi 7 0 3) + 1)) 10 j2 0 l2) 10 j2 1 l3) 10 j2 2 l4) 10 j2 3 l5) 10 j2 4 l6) 10 j2 5 ((l1 + 1) + (zand (zshr x1 1) 3))) 10 j2 6 2)))))))))) ∧ (64 ≤ hi 7 0 3 → (P (zup hi 7 0 4 ((hi 7 0 4) + 1)))))))) ∧ (zand x1 1 ≠ 0 → ((zInR ((hi 7 0 5) + 1)) ∧ (P (zup (zup hi 7 0 4 ((hi 7 0 4) + 1)) 7 0 5 ((hi 7 0 5) + 1)))))))) :
    W1v mX5_send [.inr (some (7, 0)), .inl l1, .inl l2, .inl l3, .inl l4, .inl l5, .inl l6] hi hr P :=
  WPm.of rfl (show WP mX5_send 0 [some (.inr (some (7, 0))), some (.inl l1), some (.inl l2), some (.inl l3), some (.inl l4), some (.inl l5), some (.inl l6), none, none] [] hi hr (zQ1v hr P) from
  WP.aload_n (pc2 := 1) (i := 0) rfl (by decide +kernel) rfl <|
  WP.callV (y := mX5_send) (index := 43) (pc2 := 4) (y' := mX5_fateOfNext) (vs := []) rfl (by decide +kernel) okX5_fateOfNext ⟨by decide, by decide⟩ ⟨lm_X5_43, ivX5_fateOfNext⟩ zSh_7 zc_5 (Nat.le_of_ble_eq_true rfl) ⟨rfl, rfl⟩ rfl (WP.c0i F (fun x1 _ f17 =>
  WP.istore (pc2 := 6) (i := 7) rfl (by decide +kernel) (by decide) <|
  WP.aload_n (pc2 := 7) (i := 0) rfl (by decide +kernel) rfl <|
  WP.dup (pc2 := 8) rfl (by decide +kernel) <|
  WP.getI (pc2 := 11) rfl (by decide +kernel) zc_5 zSh_7 (by decide) rfl lf_X5_31 rfl rfl <|
  WP.iconst (pc2 := 12) (x := 1) rfl (by decide +kernel) (by decide) <|
  WP.iadd (pc2 := 13) rfl (by decide +kernel) f17.1 <|
  WP.putI (pc2 := 16) rfl (by decide +kernel) zc_5 zSh_7 (by decide) rfl lf_X5_31 rfl (z_int _) rfl <|
  WP.iload (pc2 := 18) (i := 7) rfl (by decide +kernel) rfl <|
  WP.iconst (pc2 := 19) (x := 1) rfl (by decide +kernel) (by decide) <|
  WP.iand (pc2 := 20) rfl (by decide +kernel) <|
  WP.if_eq (pc2 := 23) (off := 14) (tgt := 34) rfl (by decide +kernel) (by decide) (fun h14 => have f15 := f17.2.1 h14
  WP.aload_n (pc2 := 35) (i := 0) rfl (by decide +kernel) rfl <|
  WP.getI (pc2 := 38) rfl (by decide +kernel) zc_5 zSh_7 (by decide) rfl lf_X5_28 rfl (zup_f _ _ _ _ _ _ (by decide)) <|
  WP.if_lt (pc2 := 41) (off := 12) (tgt := 50) rfl (by decide +kernel) (by decide) (fun h11 => have f12 := f15.1 h11
  WP.vret (by decide +kernel) rfl ⟨rfl, rfl, f12⟩) (fun h11 => have f13 := f15.2 h11
  WP.aload_n (pc2 := 42) (i := 0) rfl (by decide +kernel) rfl <|
  WP.getI (pc2 := 45) rfl (by decide +kernel) zc_5 zSh_7 (by decide) rfl lf_X5_28 rfl (zup_f _ _ _ _ _ _ (by decide)) <|
  WP.bipush (pc2 := 47) (x := 64) rfl (by decide +kernel) ⟨by decide +kernel, by decide⟩ <|
  WP.icmp_lt (pc2 := 50) (off := 4) (tgt := 51) rfl (by decide +kernel) (by decide) (fun h8 => have f9 := f13.1 h8
  WP.aload_n (pc2 := 52) (i := 0) rfl (by decide +kernel) rfl <|
  WP.getR (pc2 := 55) rfl (by decide +kernel) zc_5 zSh_7 (by decide) rfl lf_X5_15 rfl (rs_7_1 hR) <|
  WP.aload_n (pc2 := 56) (i := 0) rfl (by decide +kernel) rfl <|
  WP.getI (pc2 := 59) rfl (by decide +kernel) zc_5 zSh_7 (by decide) rfl lf_X5_28 rfl (zup_f _ _ _ _ _ _ (by decide)) <|
  Exists.elim f9.2 (fun j2 f7 => have e3 := f7.1; have e3r := f7.2.1
  WP.aaload (pc2 := 60) rfl (by decide +kernel) zSh_9 (by decide) rfl f9.1 e3 <|
  WP.astore (pc2 := 62) (i := 8) rfl (by decide +kernel) (by decide) <|
  WP.aload_n (pc2 := 63) (i := 0) rfl (by decide +kernel) rfl <|
  WP.dup (pc2 := 64) rfl (by decide +kernel) <|
  WP.getI (pc2 := 67) rfl (by decide +kernel) zc_5 zSh_7 (by decide) rfl lf_X5_28 rfl (zup_f _ _ _ _ _ _ (by decide)) <|
  WP.iconst (pc2 := 68) (x := 1) rfl (by decide +kernel) (by decide) <|
  WP.iadd (pc2 := 69) rfl (by decide +kernel) f7.2.2.1 <|
  WP.putI (pc2 := 72) rfl (by decide +kernel) zc_5 zSh_7 (by decide) rfl lf_X5_28 rfl (z_int _) rfl <|
  WP.aload (pc2 := 74) (i := 8) rfl (by decide +kernel) rfl <|
  WP.iload_n (pc2 := 75) (i := 2) rfl (by decide +kernel) rfl <|
  WP.putI (pc2 := 78) rfl (by decide +kernel) zc_3 zSh_10 (by decide) rfl lf_X5_47 rfl (z_bool f7.2.2.2.1) rfl <|
  WP.aload (pc2 := 80) (i := 8) rfl (by decide +kernel) rfl <|
  WP.iload_n (pc2 := 81) (i := 3) rfl (by decide +kernel) rfl <|
  WP.putI (pc2 := 84) rfl (by decide +kernel) zc_3 zSh_10 (by decide) rfl lf_X5_51 rfl (z_int _) rfl <|
  WP.aload (pc2 := 86) (i := 8) rfl (by decide +kernel) rfl <|
  WP.iload (pc2 := 88) (i := 4) rfl (by decide +kernel) rfl <|
  WP.putI (pc2 := 91) rfl (by decide +kernel) zc_3 zSh_10 (by decide) rfl lf_X5_54 rfl (z_int _) rfl <|
  WP.aload (pc2 := 93) (i := 8) rfl (by decide +kernel) rfl <|
  WP.iload (pc2 := 95) (i := 5) rfl (by decide +kernel) rfl <|
  WP.putI (pc2 := 98) rfl (by decide +kernel) zc_3 zSh_10 (by decide) rfl lf_X5_57 rfl (z_int _) rfl <|
  WP.aload (pc2 := 100) (i := 8) rfl (by decide +kernel) rfl <|
  WP.iload (pc2 := 102) (i := 6) rfl (by decide +kernel) rfl <|
  WP.putI (pc2 := 105) rfl (by decide +kernel) zc_3 zSh_10 (by decide) rfl lf_X5_60 rfl (z_int _) rfl <|
  WP.aload (pc2 := 107) (i := 8) rfl (by decide +kernel) rfl <|
  WP.iload_n (pc2 := 108) (i := 1) rfl (by decide +kernel) rfl <|
  WP.iconst (pc2 := 109) (x := 1) rfl (by decide +kernel) (by decide) <|
  WP.iadd (pc2 := 110) rfl (by decide +kernel) f7.2.2.2.2.1 <|
  WP.iload (pc2 := 112) (i := 7) rfl (by decide +kernel) rfl <|
  WP.iconst (pc2 := 113) (x := 1) rfl (by decide +kernel) (by decide) <|
  WP.ishr (pc2 := 114) rfl (by decide +kernel) <|
  WP.iconst (pc2 := 115) (x := 3) rfl (by decide +kernel) (by decide) <|
  WP.iand (pc2 := 116) rfl (by decide +kernel) <|
  WP.iadd (pc2 := 117) rfl (by decide +kernel) f7.2.2.2.2.2.1 <|
  WP.putI (pc2 := 120) rfl (by decide +kernel) zc_3 zSh_10 (by decide) rfl lf_X5_63 rfl (z_int _) rfl <|
  WP.aload (pc2 := 122) (i := 8) rfl (by decide +kernel) rfl <|
  WP.iload (pc2 := 124) (i := 7) rfl (by decide +kernel) rfl <|
  WP.bipush (pc2 := 126) (x := 8) rfl (by decide +kernel) ⟨by decide +kernel, by decide⟩ <|
  WP.iand (pc2 := 127) rfl (by decide +kernel) <|
  WP.if_eq (pc2 := 130) (off := 7) (tgt := 134) rfl (by decide +kernel) (by decide) (fun h4 => have f5 := f7.2.2.2.2.2.2.1 h4
  WP.iconst (pc2 := 135) (x := 1) rfl (by decide +kernel) (by decide) <|
  WP.putI (pc2 := 138) rfl (by decide +kernel) zc_3 zSh_10 (by decide) rfl lf_X5_66 rfl (z_int _) rfl <|
  WP.vret (by decide +kernel) rfl ⟨rfl, rfl, f5⟩) (fun h4 => have f6 := f7.2.2.2.2.2.2.2 h4
  WP.iconst (pc2 := 131) (x := 2) rfl (by decide +kernel) (by decide) <|
  WP.goto (off := 4) (tgt := 135) (by decide +kernel) (by decide) <|
  WP.putI (pc2 := 138) rfl (by decide +kernel) zc_3 zSh_10 (by decide) rfl lf_X5_66 rfl (z_int _) rfl <|
  WP.vret (by decide +kernel) rfl ⟨rfl, rfl, f6⟩))) (fun h8 => have f10 := f13.2 h8
  WP.vret (by decide +kernel) rfl ⟨rfl, rfl, f10⟩))) (fun h14 => have f16 := f17.2.2 h14
  WP.aload_n (pc2 := 24) (i := 0) rfl (by decide +kernel) rfl <|
  WP.dup (pc2 := 25) rfl (by decide +kernel) <|
  WP.getI (pc2 := 28) rfl (by decide +kernel) zc_5 zSh_7 (by decide) rfl lf_X5_34 rfl (zup_f _ _ _ _ _ _ (by decide)) <|
  WP.iconst (pc2 := 29) (x := 1) rfl (by decide +kernel) (by decide) <|
  WP.iadd (pc2 := 30) rfl (by decide +kernel) f16.1 <|
  WP.putI (pc2 := 33) rfl (by decide +kernel) zc_5 zSh_7 (by decide) rfl lf_X5_34 rfl (z_int _) rfl <|
  WP.vret (by decide +kernel) rfl ⟨rfl, rfl, f16.2⟩))))
set_option maxRecDepth 100000 in
set_option maxHeartbeats 4000000 in
theorem GX5_fateOfNext {hi : zI} {hr : zR} {P : Int → Prop} (hR : RSc hr)  
    (F : (hi 7 0 2 ≤ 0 → (P (hi 8 0 0))) ∧ (0 < hi 7 0 2 → ((0 ≤ hi 7 0 4 ∧ 0 < hi 7 0 2) ∧ (((hi 7 0 4) % (hi 7 0 2) < 0 → P 0) ∧ (0 ≤ (hi 7 0 4) % (hi 7 0 2) → ((64 ≤ (hi 7 0 4) % (hi 7 0 2) → P 0) ∧ ((hi 7 0 4) % (hi 7 0 2) < 64 → ((0 ≤ (hi 7 0 4) % (hi 7 0 2) ∧ (hi 7 0 4) % (hi 7 0 2) < 64) ∧ (P (hi 8 0 ((hi 7 0 4) % (hi 7 0 2)))))))))))) :
    W0i mX5_fateOfNext [.inr (some (7, 0))] hi hr P :=
  WPm.of rfl (show WP mX5_fateOfNext 0 [some (.inr (some (7, 0))), none] [] hi hr (zQ0i hi hr P) from
  WP.aload_n (pc2 := 1) (i := 0) rfl (by decide +kernel) rfl <|
  WP.getI (pc2 := 4) rfl (by decide +kernel) zc_5 zSh_7 (by decide) rfl lf_X5_19 rfl rfl <|
  WP.if_le (pc2 := 7) (off := 15) (tgt := 19) rfl (by decide +kernel) (by decide) (fun h7 => have f8 := F.1 h7
  WP.iconst (pc2 := 20) (x := 0) rfl (by decide +kernel) (by decide) <|
  WP.istore_n (pc2 := 21) (i := 1) rfl (by decide +kernel) (by decide) <|
  WP.iload_n (pc2 := 22) (i := 1) rfl (by decide +kernel) rfl <|
  WP.if_lt (pc2 := 25) (off := 18) (tgt := 40) rfl (by decide +kernel) (by decide) (fun h => absurd h (by decide)) (fun _ =>
  WP.iload_n (pc2 := 26) (i := 1) rfl (by decide +kernel) rfl <|
  WP.bipush (pc2 := 28) (x := 64) rfl (by decide +kernel) ⟨by decide +kernel, by decide⟩ <|
  WP.icmp_ge (pc2 := 31) (off := 12) (tgt := 40) rfl (by decide +kernel) (by decide) (fun h => absurd h (by decide)) (fun _ =>
  WP.aload_n (pc2 := 32) (i := 0) rfl (by decide +kernel) rfl <|
  WP.getR (pc2 := 35) rfl (by decide +kernel) zc_5 zSh_7 (by decide) rfl lf_X5_9 rfl (rs_7_0 hR) <|
  WP.iload_n (pc2 := 36) (i := 1) rfl (by decide +kernel) rfl <|
  WP.iaload (pc2 := 37) rfl (by decide +kernel) zSh_8 rfl (by decide) rfl <|
  WP.goto (off := 4) (tgt := 41) (by decide +kernel) (by decide) <|
  WP.iret (by decide +kernel) rfl (fun hx => ⟨_, rfl, hx, rfl, rfl, f8⟩)))) (fun h7 => have f9 := F.2 h7
  WP.aload_n (pc2 := 8) (i := 0) rfl (by decide +kernel) rfl <|
  WP.getI (pc2 := 11) rfl (by decide +kernel) zc_5 zSh_7 (by decide) rfl lf_X5_31 rfl rfl <|
  WP.aload_n (pc2 := 12) (i := 0) rfl (by decide +kernel) rfl <|
  WP.getI (pc2 := 15) rfl (by decide +kernel) zc_5 zSh_7 (by decide) rfl lf_X5_19 rfl rfl <|
  WP.irem (pc2 := 16) rfl (by decide +kernel) f9.1.1 f9.1.2 <|
  WP.goto (off := 4) (tgt := 20) (by decide +kernel) (by decide) <|
  WP.istore_n (pc2 := 21) (i := 1) rfl (by decide +kernel) (by decide) <|
  WP.iload_n (pc2 := 22) (i := 1) rfl (by decide +kernel) rfl <|
  WP.if_lt (pc2 := 25) (off := 18) (tgt := 40) rfl (by decide +kernel) (by decide) (fun h4 => have f5 := f9.2.1 h4
  WP.iconst (pc2 := 41) (x := 0) rfl (by decide +kernel) (by decide) <|
  WP.iret (by decide +kernel) rfl (fun hx => ⟨_, rfl, hx, rfl, rfl, f5⟩)) (fun h4 => have f6 := f9.2.2 h4
  WP.iload_n (pc2 := 26) (i := 1) rfl (by decide +kernel) rfl <|
  WP.bipush (pc2 := 28) (x := 64) rfl (by decide +kernel) ⟨by decide +kernel, by decide⟩ <|
  WP.icmp_ge (pc2 := 31) (off := 12) (tgt := 40) rfl (by decide +kernel) (by decide) (fun h1 => have f2 := f6.1 h1
  WP.iconst (pc2 := 41) (x := 0) rfl (by decide +kernel) (by decide) <|
  WP.iret (by decide +kernel) rfl (fun hx => ⟨_, rfl, hx, rfl, rfl, f2⟩)) (fun h1 => have f3 := f6.2 h1
  WP.aload_n (pc2 := 32) (i := 0) rfl (by decide +kernel) rfl <|
  WP.getR (pc2 := 35) rfl (by decide +kernel) zc_5 zSh_7 (by decide) rfl lf_X5_9 rfl (rs_7_0 hR) <|
  WP.iload_n (pc2 := 36) (i := 1) rfl (by decide +kernel) rfl <|
  WP.iaload (pc2 := 37) rfl (by decide +kernel) zSh_8 rfl f3.1 rfl <|
  WP.goto (off := 4) (tgt := 41) (by decide +kernel) (by decide) <|
  WP.iret (by decide +kernel) rfl (fun hx => ⟨_, rfl, hx, rfl, rfl, f3.2⟩)))))
set_option maxRecDepth 100000 in
set_option maxHeartbeats 4000000 in
theorem GX5_comingAt {hi : zI} {hr : zR} {P : Option (Nat × Int) → Prop} (hR : RSc hr) (l1 : Int) (l2 : Int) 
    (F : (l1 < 0 → P none) ∧ (0 ≤ l1 → ((hi 7 0 3 ≤ l1 → P none) ∧ (l1 < hi 7 0 3 → ((l1 < 64 → ((0 ≤ l1 ∧ l1 < 64) ∧ ∃ j1 : Int, hr 9 0 l1 = some (10, j1) ∧ (0 ≤ j1 ∧ j1 < 64) ∧ ((hi 10 j1 5 ≠ l2 → P none) ∧ (hi 10 j1 5 = l2 → ((0 ≤ l1 ∧ l1 < 64) ∧ (P (some (10, j1)))))))) ∧ (64 ≤ l1 → P none)))))) :
    W0r mX5_comingAt [.inr (some (7, 0)), .inl l1, .inl l2] hi hr P :=
  WPm.of rfl (show WP mX5_comingAt 0 [some (.inr (some (7, 0))), some (.inl l1), some (.inl l2)] [] hi hr (zQ0r hi hr P) from
  WP.iload_n (pc2 := 1) (i := 1) rfl (by decide +kernel) rfl <|
  WP.if_lt (pc2 := 4) (off := 17) (tgt := 18) rfl (by decide +kernel) (by decide) (fun h13 => have f14 := F.1 h13
  WP.null (pc2 := 19) rfl (by decide +kernel) <|
  WP.aret (by decide +kernel) rfl ⟨_, rfl, rfl, rfl, f14⟩) (fun h13 => have f15 := F.2 h13
  WP.iload_n (pc2 := 5) (i := 1) rfl (by decide +kernel) rfl <|
  WP.aload_n (pc2 := 6) (i := 0) rfl (by decide +kernel) rfl <|
  WP.getI (pc2 := 9) rfl (by decide +kernel) zc_5 zSh_7 (by decide) rfl lf_X5_28 rfl rfl <|
  WP.icmp_ge (pc2 := 12) (off := 9) (tgt := 18) rfl (by decide +kernel) (by decide) (fun h10 => have f11 := f15.1 h10
  WP.null (pc2 := 19) rfl (by decide +kernel) <|
  WP.aret (by decide +kernel) rfl ⟨_, rfl, rfl, rfl, f11⟩) (fun h10 => have f12 := f15.2 h10
  WP.iload_n (pc2 := 13) (i := 1) rfl (by decide +kernel) rfl <|
  WP.bipush (pc2 := 15) (x := 64) rfl (by decide +kernel) ⟨by decide +kernel, by decide⟩ <|
  WP.icmp_lt (pc2 := 18) (off := 5) (tgt := 20) rfl (by decide +kernel) (by decide) (fun h7 => have f8 := f12.1 h7
  WP.aload_n (pc2 := 21) (i := 0) rfl (by decide +kernel) rfl <|
  WP.getR (pc2 := 24) rfl (by decide +kernel) zc_5 zSh_7 (by decide) rfl lf_X5_15 rfl (rs_7_1 hR) <|
  WP.iload_n (pc2 := 25) (i := 1) rfl (by decide +kernel) rfl <|
  Exists.elim f8.2 (fun j1 f6 => have e2 := f6.1; have e2r := f6.2.1
  WP.aaload (pc2 := 26) rfl (by decide +kernel) zSh_9 (by decide) rfl f8.1 e2 <|
  WP.getI (pc2 := 29) rfl (by decide +kernel) zc_3 zSh_10 (by decide) rfl lf_X5_63 rfl rfl <|
  WP.iload_n (pc2 := 30) (i := 2) rfl (by decide +kernel) rfl <|
  WP.icmp_ne (pc2 := 33) (off := 12) (tgt := 42) rfl (by decide +kernel) (by decide) (fun h3 => have f4 := f6.2.2.1 h3
  WP.null (pc2 := 43) rfl (by decide +kernel) <|
  WP.aret (by decide +kernel) rfl ⟨_, rfl, rfl, rfl, f4⟩) (fun h3 => have f5 := f6.2.2.2 h3
  WP.aload_n (pc2 := 34) (i := 0) rfl (by decide +kernel) rfl <|
  WP.getR (pc2 := 37) rfl (by decide +kernel) zc_5 zSh_7 (by decide) rfl lf_X5_15 rfl (rs_7_1 hR) <|
  WP.iload_n (pc2 := 38) (i := 1) rfl (by decide +kernel) rfl <|
  WP.aaload (pc2 := 39) rfl (by decide +kernel) zSh_9 (by decide) rfl f5.1 e2 <|
  WP.goto (off := 4) (tgt := 43) (by decide +kernel) (by decide) <|
  WP.aret (by decide +kernel) rfl ⟨_, rfl, rfl, rfl, f5.2⟩))) (fun h7 => have f9 := f12.2 h7
  WP.null (pc2 := 19) rfl (by decide +kernel) <|
  WP.aret (by decide +kernel) rfl ⟨_, rfl, rfl, rfl, f9⟩))))
set_option maxRecDepth 100000 in
set_option maxHeartbeats 4000000 in
theorem GX5_forgetCome {hi : zI} {hr : zR} {P : zI → zR → Prop} (l1 : Int) 
    (F : WP mX5_forgetCome 4 [some (.inr (some (7, 0))), some (.inl l1), some (.inl 0), some (.inl 0), none] [] hi hr (zQ2v P)) :
    W2v mX5_forgetCome [.inr (some (7, 0)), .inl l1] hi hr P :=
  WPm.of rfl (show WP mX5_forgetCome 0 [some (.inr (some (7, 0))), some (.inl l1), none, none, none] [] hi hr (zQ2v P) from
  WP.iconst (pc2 := 1) (x := 0) rfl (by decide +kernel) (by decide) <|
  WP.istore_n (pc2 := 2) (i := 2) rfl (by decide +kernel) (by decide) <|
  WP.iconst (pc2 := 3) (x := 0) rfl (by decide +kernel) (by decide) <|
  WP.istore_n (pc2 := 4) (i := 3) rfl (by decide +kernel) (by decide) <|
  F)

set_option maxRecDepth 100000 in
set_option maxHeartbeats 4000000 in
theorem GX5_forgetCome_4 {hi : zI} {hr : zR} {P : zI → zR → Prop} (hR : RSc hr) (l1 : Int) (a2 : Int) (a3 : Int) (u4 : Option zV) 
    (F : (hi 7 0 3 ≤ a3 → (P (zup hi 7 0 3 a2) hr)) ∧ (a3 < hi 7 0 3 → ((64 ≤ a3 → (P (zup hi 7 0 3 a2) hr)) ∧ (a3 < 64 → ((0 ≤ a3 ∧ a3 < 64) ∧ ∃ j31 : Int, hr 9 0 a3 = some (10, j31) ∧ (0 ≤ j31 ∧ j31 < 64) ∧ ((hi 10 j31 5 ≠ l1 → ((hi 10 j31 6 ≤ 0 → ((zInR (a3 + 1)) ∧ (WP mX5_forgetCome 4 [some (.inr (some (7, 0))), some (.inl l1), some (.inl a2), some (.inl (a3 + 1)), some (.inr (some (10, j31)))] [] hi hr (zQ2v P)))) ∧ (0 < hi 10 j31 6 → ((64 ≤ a2 → ((zInR (a3 + 1)) ∧ (WP mX5_forgetCome 4 [some (.inr (some (7, 0))), some (.inl l1), some (.inl a2), some (.inl (a3 + 1)), some (.inr (some (10, j31)))] [] hi hr (zQ2v P)))) ∧ (a2 < 64 → ((0 ≤ a2 ∧ a2 < 64) ∧ ∃ j33 : Int, hr 9 0 a2 = some (10, j33) ∧ (0 ≤ j33 ∧ j33 < 64) ∧ ((0 ≤ a3 ∧ a3 < 64) ∧ ((0 ≤ a2 ∧ a2 < 64) ∧ ((zInR (a2 + 1)) ∧ ((zInR (a3 + 1)) ∧ (WP mX5_forgetCome 4 [some (.inr (some (7, 0))), some (.inl l1), some (.inl (a2 + 1)), some (.inl (a3 + 1)), some (.inr (some (10, j31)))] [] hi (zupR (zupR hr 9 0 a3 (some (10, j33))) 9 0 a2 (some (10, j31))) (zQ2v P)))))))))))) ∧ (hi 10 j31 5 = l1 → ((zInR ((hi 10 j31 6) - 1)) ∧ ((zInR ((hi 10 j31 5) + 1)) ∧ (((hi 10 j31 6) - 1 ≤ 0 → ((zInR (a3 + 1)) ∧ (WP mX5_forgetCome 4 [some (.inr (some (7, 0))), some (.inl l1), some (.inl a2), some (.inl (a3 + 1)), some (.inr (some (10, j31)))] [] (zup (zup hi 10 j31 6 ((hi 10 j31 6) - 1)) 10 j31 5 ((hi 10 j31 5) + 1)) hr (zQ2v P)))) ∧ (0 < (hi 10 j31 6) - 1 → ((64 ≤ a2 → ((zInR (a3 + 1)) ∧ (WP mX5_forgetCome 4 [some (.inr (some (7, 0))), some (.inl l1), some (.inl a2), some (.inl (a3 + 1)), some (.inr (some (10, j31)))] [] (zup (zup hi 10 j31 6 ((hi 10 j31 6) - 1)) 10 j31 5 ((hi 10 j31 5) + 1)) hr (zQ2v P)))) ∧ (a2 < 64 → ((0 ≤ a2 ∧ a2 < 64) ∧ ∃ j42 : Int, hr 9 0 a2 = some (10, j42) ∧ (0 ≤ j42 ∧ j42 < 64) ∧ ((0 ≤ a3 ∧ a3 < 64) ∧ ((0 ≤ a2 ∧ a2 < 64) ∧ ((zInR (a2 + 1)) ∧ ((zInR (a3 + 1)) ∧ (WP mX5_forgetCome 4 [some (.inr (some (7, 0))), some (.inl l1), some (.inl (a2 + 1)), some (.inl (a3 + 1)), some (.inr (some (10, j31)))] [] (zup (zup hi 10 j31 6 ((hi 10 j31 6) - 1)) 10 j31 5 ((hi 10 j31 5) + 1)) (zupR (zupR hr 9 0 a3 (some (10, j42))) 9 0 a2 (some (10, j31))) (zQ2v P)))))))))))))))))))) :
    WP mX5_forgetCome 4 [some (.inr (some (7, 0))), some (.inl l1), some (.inl a2), some (.inl a3), u4] [] hi hr (zQ2v P) :=
  WP.iload_n (pc2 := 5) (i := 3) rfl (by decide +kernel) rfl <|
  WP.aload_n (pc2 := 6) (i := 0) rfl (by decide +kernel) rfl <|
  WP.getI (pc2 := 9) rfl (by decide +kernel) zc_5 zSh_7 (by decide) rfl lf_X5_28 rfl rfl <|
  WP.icmp_ge (pc2 := 12) (off := 91) (tgt := 100) rfl (by decide +kernel) (by decide) (fun h58 => have f59 := F.1 h58
  WP.aload_n (pc2 := 101) (i := 0) rfl (by decide +kernel) rfl <|
  WP.iload_n (pc2 := 102) (i := 2) rfl (by decide +kernel) rfl <|
  WP.putI (pc2 := 105) rfl (by decide +kernel) zc_5 zSh_7 (by decide) rfl lf_X5_28 rfl (z_int _) rfl <|
  WP.vret (by decide +kernel) rfl ⟨rfl, trivial, f59⟩) (fun h58 => have f60 := F.2 h58
  WP.iload_n (pc2 := 13) (i := 3) rfl (by decide +kernel) rfl <|
  WP.bipush (pc2 := 15) (x := 64) rfl (by decide +kernel) ⟨by decide +kernel, by decide⟩ <|
  WP.icmp_ge (pc2 := 18) (off := 85) (tgt := 100) rfl (by decide +kernel) (by decide) (fun h55 => have f56 := f60.1 h55
  WP.aload_n (pc2 := 101) (i := 0) rfl (by decide +kernel) rfl <|
  WP.iload_n (pc2 := 102) (i := 2) rfl (by decide +kernel) rfl <|
  WP.putI (pc2 := 105) rfl (by decide +kernel) zc_5 zSh_7 (by decide) rfl lf_X5_28 rfl (z_int _) rfl <|
  WP.vret (by decide +kernel) rfl ⟨rfl, trivial, f56⟩) (fun h55 => have f57 := f60.2 h55
  WP.aload_n (pc2 := 19) (i := 0) rfl (by decide +kernel) rfl <|
  WP.getR (pc2 := 22) rfl (by decide +kernel) zc_5 zSh_7 (by decide) rfl lf_X5_15 rfl (rs_7_1 hR) <|
  WP.iload_n (pc2 := 23) (i := 3) rfl (by decide +kernel) rfl <|
  Exists.elim f57.2 (fun j31 f54 => have e32 := f54.1; have e32r := f54.2.1
  WP.aaload (pc2 := 24) rfl (by decide +kernel) zSh_9 (by decide) rfl f57.1 e32 <|
  WP.astore (pc2 := 26) (i := 4) rfl (by decide +kernel) (by decide) <|
  WP.aload (pc2 := 28) (i := 4) rfl (by decide +kernel) rfl <|
  WP.getI (pc2 := 31) rfl (by decide +kernel) zc_3 zSh_10 (by decide) rfl lf_X5_63 rfl rfl <|
  WP.iload_n (pc2 := 32) (i := 1) rfl (by decide +kernel) rfl <|
  WP.icmp_ne (pc2 := 35) (off := 25) (tgt := 57) rfl (by decide +kernel) (by decide) (fun h51 => have f52 := f54.2.2.1 h51
  WP.aload (pc2 := 59) (i := 4) rfl (by decide +kernel) rfl <|
  WP.getI (pc2 := 62) rfl (by decide +kernel) zc_3 zSh_10 (by decide) rfl lf_X5_66 rfl rfl <|
  WP.if_le (pc2 := 65) (off := 32) (tgt := 94) rfl (by decide +kernel) (by decide) (fun h39 => have f40 := f52.1 h39
  WP.iinc (pc2 := 97) (i := 3) (d := 1) rfl (by decide +kernel) rfl f40.1 <|
  WP.goto (off := -93) (tgt := 4) (by decide +kernel) (by decide) <|
  f40.2) (fun h39 => have f41 := f52.2 h39
  WP.iload_n (pc2 := 66) (i := 2) rfl (by decide +kernel) rfl <|
  WP.bipush (pc2 := 68) (x := 64) rfl (by decide +kernel) ⟨by decide +kernel, by decide⟩ <|
  WP.icmp_ge (pc2 := 71) (off := 26) (tgt := 94) rfl (by decide +kernel) (by decide) (fun h36 => have f37 := f41.1 h36
  WP.iinc (pc2 := 97) (i := 3) (d := 1) rfl (by decide +kernel) rfl f37.1 <|
  WP.goto (off := -93) (tgt := 4) (by decide +kernel) (by decide) <|
  f37.2) (fun h36 => have f38 := f41.2 h36
  WP.aload_n (pc2 := 72) (i := 0) rfl (by decide +kernel) rfl <|
  WP.getR (pc2 := 75) rfl (by decide +kernel) zc_5 zSh_7 (by decide) rfl lf_X5_15 rfl (rs_7_1 hR) <|
  WP.iload_n (pc2 := 76) (i := 3) rfl (by decide +kernel) rfl <|
  WP.aload_n (pc2 := 77) (i := 0) rfl (by decide +kernel) rfl <|
  WP.getR (pc2 := 80) rfl (by decide +kernel) zc_5 zSh_7 (by decide) rfl lf_X5_15 rfl (rs_7_1 hR) <|
  WP.iload_n (pc2 := 81) (i := 2) rfl (by decide +kernel) rfl <|
  Exists.elim f38.2 (fun j33 f35 => have e34 := f35.1; have e34r := f35.2.1
  WP.aaload (pc2 := 82) rfl (by decide +kernel) zSh_9 (by decide) rfl f38.1 e34 <|
  WP.aastore (pc2 := 83) rfl (by decide +kernel) zSh_9 zSh_10 zc_3 (by decide) rfl f35.2.2.1 <|
  WP.aload_n (pc2 := 84) (i := 0) rfl (by decide +kernel) rfl <|
  WP.getR (pc2 := 87) rfl (by decide +kernel) zc_5 zSh_7 (by decide) rfl lf_X5_15 rfl ((zupR_k _ _ _ _ _ _ (by decide)).trans (rs_7_1 hR)) <|
  WP.iload_n (pc2 := 88) (i := 2) rfl (by decide +kernel) rfl <|
  WP.aload (pc2 := 90) (i := 4) rfl (by decide +kernel) rfl <|
  WP.aastore (pc2 := 91) rfl (by decide +kernel) zSh_9 zSh_10 zc_3 (by decide) rfl f35.2.2.2.1 <|
  WP.iinc (pc2 := 94) (i := 2) (d := 1) rfl (by decide +kernel) rfl f35.2.2.2.2.1 <|
  WP.iinc (pc2 := 97) (i := 3) (d := 1) rfl (by decide +kernel) rfl f35.2.2.2.2.2.1 <|
  WP.goto (off := -93) (tgt := 4) (by decide +kernel) (by decide) <|
  f35.2.2.2.2.2.2)))) (fun h51 => have f53 := f54.2.2.2 h51
  WP.aload (pc2 := 37) (i := 4) rfl (by decide +kernel) rfl <|
  WP.dup (pc2 := 38) rfl (by decide +kernel) <|
  WP.getI (pc2 := 41) rfl (by decide +kernel) zc_3 zSh_10 (by decide) rfl lf_X5_66 rfl rfl <|
  WP.iconst (pc2 := 42) (x := 1) rfl (by decide +kernel) (by decide) <|
  WP.isub (pc2 := 43) rfl (by decide +kernel) f53.1 <|
  WP.putI (pc2 := 46) rfl (by decide +kernel) zc_3 zSh_10 (by decide) rfl lf_X5_66 rfl (z_int _) rfl <|
  WP.aload (pc2 := 48) (i := 4) rfl (by decide +kernel) rfl <|
  WP.dup (pc2 := 49) rfl (by decide +kernel) <|
  WP.getI (pc2 := 52) rfl (by decide +kernel) zc_3 zSh_10 (by decide) rfl lf_X5_63 rfl (zup_f _ _ _ _ _ _ (by decide)) <|
  WP.iconst (pc2 := 53) (x := 1) rfl (by decide +kernel) (by decide) <|
  WP.iadd (pc2 := 54) rfl (by decide +kernel) f53.2.1 <|
  WP.putI (pc2 := 57) rfl (by decide +kernel) zc_3 zSh_10 (by decide) rfl lf_X5_63 rfl (z_int _) rfl <|
  WP.aload (pc2 := 59) (i := 4) rfl (by decide +kernel) rfl <|
  WP.getI (pc2 := 62) rfl (by decide +kernel) zc_3 zSh_10 (by decide) rfl lf_X5_66 rfl ((zup_f _ _ _ _ _ _ (by decide)).trans (zup_s _ _ _ _ _)) <|
  WP.if_le (pc2 := 65) (off := 32) (tgt := 94) rfl (by decide +kernel) (by decide) (fun h48 => have f49 := f53.2.2.1 h48
  WP.iinc (pc2 := 97) (i := 3) (d := 1) rfl (by decide +kernel) rfl f49.1 <|
  WP.goto (off := -93) (tgt := 4) (by decide +kernel) (by decide) <|
  f49.2) (fun h48 => have f50 := f53.2.2.2 h48
  WP.iload_n (pc2 := 66) (i := 2) rfl (by decide +kernel) rfl <|
  WP.bipush (pc2 := 68) (x := 64) rfl (by decide +kernel) ⟨by decide +kernel, by decide⟩ <|
  WP.icmp_ge (pc2 := 71) (off := 26) (tgt := 94) rfl (by decide +kernel) (by decide) (fun h45 => have f46 := f50.1 h45
  WP.iinc (pc2 := 97) (i := 3) (d := 1) rfl (by decide +kernel) rfl f46.1 <|
  WP.goto (off := -93) (tgt := 4) (by decide +kernel) (by decide) <|
  f46.2) (fun h45 => have f47 := f50.2 h45
  WP.aload_n (pc2 := 72) (i := 0) rfl (by decide +kernel) rfl <|
  WP.getR (pc2 := 75) rfl (by decide +kernel) zc_5 zSh_7 (by decide) rfl lf_X5_15 rfl (rs_7_1 hR) <|
  WP.iload_n (pc2 := 76) (i := 3) rfl (by decide +kernel) rfl <|
  WP.aload_n (pc2 := 77) (i := 0) rfl (by decide +kernel) rfl <|
  WP.getR (pc2 := 80) rfl (by decide +kernel) zc_5 zSh_7 (by decide) rfl lf_X5_15 rfl (rs_7_1 hR) <|
  WP.iload_n (pc2 := 81) (i := 2) rfl (by decide +kernel) rfl <|
  Exists.elim f47.2 (fun j42 f44 => have e43 := f44.1; have e43r := f44.2.1
  WP.aaload (pc2 := 82) rfl (by decide +kernel) zSh_9 (by decide) rfl f47.1 e43 <|
  WP.aastore (pc2 := 83) rfl (by decide +kernel) zSh_9 zSh_10 zc_3 (by decide) rfl f44.2.2.1 <|
  WP.aload_n (pc2 := 84) (i := 0) rfl (by decide +kernel) rfl <|
  WP.getR (pc2 := 87) rfl (by decide +kernel) zc_5 zSh_7 (by decide) rfl lf_X5_15 rfl ((zupR_k _ _ _ _ _ _ (by decide)).trans (rs_7_1 hR)) <|
  WP.iload_n (pc2 := 88) (i := 2) rfl (by decide +kernel) rfl <|
  WP.aload (pc2 := 90) (i := 4) rfl (by decide +kernel) rfl <|
  WP.aastore (pc2 := 91) rfl (by decide +kernel) zSh_9 zSh_10 zc_3 (by decide) rfl f44.2.2.2.1 <|
  WP.iinc (pc2 := 94) (i := 2) (d := 1) rfl (by decide +kernel) rfl f44.2.2.2.2.1 <|
  WP.iinc (pc2 := 97) (i := 3) (d := 1) rfl (by decide +kernel) rfl f44.2.2.2.2.2.1 <|
  WP.goto (off := -93) (tgt := 4) (by decide +kernel) (by decide) <|
  f44.2.2.2.2.2.2)))))))
set_option maxRecDepth 100000 in
set_option maxHeartbeats 4000000 in
theorem GX5_comingsOnTheWay {hi : zI} {hr : zR} {P : Int → Prop}  
    (F : WP mX5_comingsOnTheWay 4 [some (.inr (some (7, 0))), some (.inl 0), some (.inl 0)] [] hi hr (zQ0i hi hr P)) :
    W0i mX5_comingsOnTheWay [.inr (some (7, 0))] hi hr P :=
  WPm.of rfl (show WP mX5_comingsOnTheWay 0 [some (.inr (some (7, 0))), none, none] [] hi hr (zQ0i hi hr P) from
  WP.iconst (pc2 := 1) (x := 0) rfl (by decide +kernel) (by decide) <|
  WP.istore_n (pc2 := 2) (i := 1) rfl (by decide +kernel) (by decide) <|
  WP.iconst (pc2 := 3) (x := 0) rfl (by decide +kernel) (by decide) <|
  WP.istore_n (pc2 := 4) (i := 2) rfl (by decide +kernel) (by decide) <|
  F)

set_option maxRecDepth 100000 in
set_option maxHeartbeats 4000000 in
theorem GX5_comingsOnTheWay_4 {hi : zI} {hr : zR} {P : Int → Prop} (hR : RSc hr) (a1 : Int) (a2 : Int) 
    (F : (hi 7 0 3 ≤ a2 → P a1) ∧ (a2 < hi 7 0 3 → ((64 ≤ a2 → P a1) ∧ (a2 < 64 → ((0 ≤ a2 ∧ a2 < 64) ∧ ∃ j1 : Int, hr 9 0 a2 = some (10, j1) ∧ (0 ≤ j1 ∧ j1 < 64) ∧ ((zInR (a1 + (hi 10 j1 6))) ∧ ((zInR (a2 + 1)) ∧ (WP mX5_comingsOnTheWay 4 [some (.inr (some (7, 0))), some (.inl (a1 + (hi 10 j1 6))), some (.inl (a2 + 1))] [] hi hr (zQ0i hi hr P))))))))) :
    WP mX5_comingsOnTheWay 4 [some (.inr (some (7, 0))), some (.inl a1), some (.inl a2)] [] hi hr (zQ0i hi hr P) :=
  WP.iload_n (pc2 := 5) (i := 2) rfl (by decide +kernel) rfl <|
  WP.aload_n (pc2 := 6) (i := 0) rfl (by decide +kernel) rfl <|
  WP.getI (pc2 := 9) rfl (by decide +kernel) zc_5 zSh_7 (by decide) rfl lf_X5_28 rfl rfl <|
  WP.icmp_ge (pc2 := 12) (off := 27) (tgt := 36) rfl (by decide +kernel) (by decide) (fun h7 => have f8 := F.1 h7
  WP.iload_n (pc2 := 37) (i := 1) rfl (by decide +kernel) rfl <|
  WP.iret (by decide +kernel) rfl (fun hx => ⟨_, rfl, hx, rfl, rfl, f8⟩)) (fun h7 => have f9 := F.2 h7
  WP.iload_n (pc2 := 13) (i := 2) rfl (by decide +kernel) rfl <|
  WP.bipush (pc2 := 15) (x := 64) rfl (by decide +kernel) ⟨by decide +kernel, by decide⟩ <|
  WP.icmp_ge (pc2 := 18) (off := 21) (tgt := 36) rfl (by decide +kernel) (by decide) (fun h4 => have f5 := f9.1 h4
  WP.iload_n (pc2 := 37) (i := 1) rfl (by decide +kernel) rfl <|
  WP.iret (by decide +kernel) rfl (fun hx => ⟨_, rfl, hx, rfl, rfl, f5⟩)) (fun h4 => have f6 := f9.2 h4
  WP.iload_n (pc2 := 19) (i := 1) rfl (by decide +kernel) rfl <|
  WP.aload_n (pc2 := 20) (i := 0) rfl (by decide +kernel) rfl <|
  WP.getR (pc2 := 23) rfl (by decide +kernel) zc_5 zSh_7 (by decide) rfl lf_X5_15 rfl (rs_7_1 hR) <|
  WP.iload_n (pc2 := 24) (i := 2) rfl (by decide +kernel) rfl <|
  Exists.elim f6.2 (fun j1 f3 => have e2 := f3.1; have e2r := f3.2.1
  WP.aaload (pc2 := 25) rfl (by decide +kernel) zSh_9 (by decide) rfl f6.1 e2 <|
  WP.getI (pc2 := 28) rfl (by decide +kernel) zc_3 zSh_10 (by decide) rfl lf_X5_66 rfl rfl <|
  WP.iadd (pc2 := 29) rfl (by decide +kernel) f3.2.2.1 <|
  WP.istore_n (pc2 := 30) (i := 1) rfl (by decide +kernel) (by decide) <|
  WP.iinc (pc2 := 33) (i := 2) (d := 1) rfl (by decide +kernel) rfl f3.2.2.2.1 <|
  WP.goto (off := -29) (tgt := 4) (by decide +kernel) (by decide) <|
  f3.2.2.2.2)))
