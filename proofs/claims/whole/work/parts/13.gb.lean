set_option maxRecDepth 100000 in
set_option maxHeartbeats 4000000 in
theorem GX2_faultOf {hi : zI} {hr : zR} {P : Int → zI → Prop} (j2 : Int) (hj2 : 0 ≤ j2 ∧ j2 < 2)
    (F : W1v mX10_clear [.inr (some (30, j2))] hi hr (fun (hi1 : zI) => W1i mX2_faultOfSigns [.inr (some (4, 0)), .inr (some (2, 0)), .inr (some (30, j2))] (zup (zup hi1 4 0 3 0) 4 0 4 0) hr (fun (x2 : Int) (hi3 : zI) => (x2 ≠ 0 → ((x2 ≠ 0 → ((x2 ≠ 0 → P x2 hi3) ∧ (x2 = 0 → (P x2 (zup hi3 4 0 2 (-1)))))) ∧ (x2 = 0 → (W1i mX2_faultOfWays [.inr (some (4, 0)), .inr (some (30, j2))] hi3 hr (fun (x7 : Int) (hi8 : zI) => (x7 ≠ 0 → P x7 hi8) ∧ (x7 = 0 → (P x7 (zup hi8 4 0 2 (-1))))))))) ∧ (x2 = 0 → (W1v mX10_joinCells [.inr (some (30, j2))] hi3 hr (fun (hi16 : zI) => W0i mX2_faultOfNumbers [.inr (some (30, j2))] hi16 hr (fun (x17 : Int) => (x17 ≠ 0 → ((x17 ≠ 0 → P x17 hi16) ∧ (x17 = 0 → (P x17 (zup hi16 4 0 2 (-1)))))) ∧ (x17 = 0 → (W1i mX2_faultOfWays [.inr (some (4, 0)), .inr (some (30, j2))] hi16 hr (fun (x21 : Int) (hi22 : zI) => (x21 ≠ 0 → P x21 hi22) ∧ (x21 = 0 → (P x21 (zup hi22 4 0 2 (-1)))))))))))))) :
    W1i mX2_faultOf [.inr (some (4, 0)), .inr (some (2, 0)), .inr (some (30, j2))] hi hr P :=
  WPm.of rfl (show WP mX2_faultOf 0 [some (.inr (some (4, 0))), some (.inr (some (2, 0))), some (.inr (some (30, j2))), none] [] hi hr (zQ1i hr P) from
  WP.aload_n (pc2 := 1) (i := 2) rfl (by decide +kernel) rfl <|
  WP.callV (y := mX2_faultOf) (index := 22) (pc2 := 4) (y' := mX10_clear) (vs := []) rfl (by decide +kernel) okX10_clear ⟨by decide, by decide⟩ ⟨lm_X2_22, ivX10_clear⟩ zSh_30 zc_10 (Nat.le_of_ble_eq_true rfl) ⟨rfl, rfl⟩ rfl (WP.c1v F (fun hi1 f36 =>
  WP.aload_n (pc2 := 5) (i := 0) rfl (by decide +kernel) rfl <|
  WP.iconst (pc2 := 6) (x := 0) rfl (by decide +kernel) (by decide) <|
  WP.putI (pc2 := 9) rfl (by decide +kernel) zc_2 zSh_4 (by decide) rfl lf_X2_27 rfl (z_int _) rfl <|
  WP.aload_n (pc2 := 10) (i := 0) rfl (by decide +kernel) rfl <|
  WP.iconst (pc2 := 11) (x := 0) rfl (by decide +kernel) (by decide) <|
  WP.putI (pc2 := 14) rfl (by decide +kernel) zc_2 zSh_4 (by decide) rfl lf_X2_30 rfl (z_int _) rfl <|
  WP.aload_n (pc2 := 15) (i := 0) rfl (by decide +kernel) rfl <|
  WP.aload_n (pc2 := 16) (i := 1) rfl (by decide +kernel) rfl <|
  WP.aload_n (pc2 := 17) (i := 2) rfl (by decide +kernel) rfl <|
  WP.callV (y := mX2_faultOf) (index := 33) (pc2 := 20) (y' := mX2_faultOfSigns) (vs := [.inr (some (2, 0)), .inr (some (30, j2))]) rfl (by decide +kernel) okX2_faultOfSigns ⟨by decide, by decide⟩ ⟨lm_X2_33, ivX2_faultOfSigns⟩ zSh_4 zc_2 (Nat.le_of_ble_eq_true rfl) ⟨rfl, rfl⟩ rfl (WP.c1i f36 (fun x2 hi3 _ f35 =>
  WP.istore_n (pc2 := 21) (i := 3) rfl (by decide +kernel) (by decide) <|
  WP.iload_n (pc2 := 22) (i := 3) rfl (by decide +kernel) rfl <|
  WP.if_ne (pc2 := 25) (off := 12) (tgt := 34) rfl (by decide +kernel) (by decide) (fun h32 => have f33 := f35.1 h32
  WP.iload_n (pc2 := 35) (i := 3) rfl (by decide +kernel) rfl <|
  WP.if_ne (pc2 := 38) (off := 9) (tgt := 44) rfl (by decide +kernel) (by decide) (fun h13 => have f14 := f33.1 h13
  WP.iload_n (pc2 := 45) (i := 3) rfl (by decide +kernel) rfl <|
  WP.if_ne (pc2 := 48) (off := 8) (tgt := 53) rfl (by decide +kernel) (by decide) (fun h4 => have f5 := f14.1 h4
  WP.iload_n (pc2 := 54) (i := 3) rfl (by decide +kernel) rfl <|
  WP.iret (by decide +kernel) rfl (fun hx => ⟨_, rfl, hx, rfl, f5⟩)) (fun h4 => have f6 := f14.2 h4
  WP.aload_n (pc2 := 49) (i := 0) rfl (by decide +kernel) rfl <|
  WP.iconst (pc2 := 50) (x := -1) rfl (by decide +kernel) (by decide) <|
  WP.putI (pc2 := 53) rfl (by decide +kernel) zc_2 zSh_4 (by decide) rfl lf_X2_18 rfl (z_int _) rfl <|
  WP.iload_n (pc2 := 54) (i := 3) rfl (by decide +kernel) rfl <|
  WP.iret (by decide +kernel) rfl (fun hx => ⟨_, rfl, hx, rfl, f6⟩))) (fun h13 => have f15 := f33.2 h13
  WP.aload_n (pc2 := 39) (i := 0) rfl (by decide +kernel) rfl <|
  WP.aload_n (pc2 := 40) (i := 2) rfl (by decide +kernel) rfl <|
  WP.callV (y := mX2_faultOf) (index := 44) (pc2 := 43) (y' := mX2_faultOfWays) (vs := [.inr (some (30, j2))]) rfl (by decide +kernel) okX2_faultOfWays ⟨by decide, by decide⟩ ⟨lm_X2_44, ivX2_faultOfWays⟩ zSh_4 zc_2 (Nat.le_of_ble_eq_true rfl) ⟨rfl, rfl⟩ rfl (WP.c1i f15 (fun x7 hi8 _ f12 =>
  WP.istore_n (pc2 := 44) (i := 3) rfl (by decide +kernel) (by decide) <|
  WP.iload_n (pc2 := 45) (i := 3) rfl (by decide +kernel) rfl <|
  WP.if_ne (pc2 := 48) (off := 8) (tgt := 53) rfl (by decide +kernel) (by decide) (fun h9 => have f10 := f12.1 h9
  WP.iload_n (pc2 := 54) (i := 3) rfl (by decide +kernel) rfl <|
  WP.iret (by decide +kernel) rfl (fun hx => ⟨_, rfl, hx, rfl, f10⟩)) (fun h9 => have f11 := f12.2 h9
  WP.aload_n (pc2 := 49) (i := 0) rfl (by decide +kernel) rfl <|
  WP.iconst (pc2 := 50) (x := -1) rfl (by decide +kernel) (by decide) <|
  WP.putI (pc2 := 53) rfl (by decide +kernel) zc_2 zSh_4 (by decide) rfl lf_X2_18 rfl (z_int _) rfl <|
  WP.iload_n (pc2 := 54) (i := 3) rfl (by decide +kernel) rfl <|
  WP.iret (by decide +kernel) rfl (fun hx => ⟨_, rfl, hx, rfl, f11⟩)))))) (fun h32 => have f34 := f35.2 h32
  WP.aload_n (pc2 := 26) (i := 2) rfl (by decide +kernel) rfl <|
  WP.callV (y := mX2_faultOf) (index := 37) (pc2 := 29) (y' := mX10_joinCells) (vs := []) rfl (by decide +kernel) okX10_joinCells ⟨by decide, by decide⟩ ⟨lm_X2_37, ivX10_joinCells⟩ zSh_30 zc_10 (Nat.le_of_ble_eq_true rfl) ⟨rfl, rfl⟩ rfl (WP.c1v f34 (fun hi16 f31 =>
  WP.aload_n (pc2 := 30) (i := 2) rfl (by decide +kernel) rfl <|
  WP.callS (y := mX2_faultOf) (index := 40) (pc2 := 33) (y' := mX2_faultOfNumbers) (vs := [.inr (some (30, j2))]) rfl (by decide +kernel) okX2_faultOfNumbers ⟨by decide, by decide⟩ ⟨lm_X2_40, ivX2_faultOfNumbers⟩ (Nat.le_of_ble_eq_true rfl) ⟨rfl, rfl⟩ rfl (WP.c0i f31 (fun x17 _ f30 =>
  WP.istore_n (pc2 := 34) (i := 3) rfl (by decide +kernel) (by decide) <|
  WP.iload_n (pc2 := 35) (i := 3) rfl (by decide +kernel) rfl <|
  WP.if_ne (pc2 := 38) (off := 9) (tgt := 44) rfl (by decide +kernel) (by decide) (fun h27 => have f28 := f30.1 h27
  WP.iload_n (pc2 := 45) (i := 3) rfl (by decide +kernel) rfl <|
  WP.if_ne (pc2 := 48) (off := 8) (tgt := 53) rfl (by decide +kernel) (by decide) (fun h18 => have f19 := f28.1 h18
  WP.iload_n (pc2 := 54) (i := 3) rfl (by decide +kernel) rfl <|
  WP.iret (by decide +kernel) rfl (fun hx => ⟨_, rfl, hx, rfl, f19⟩)) (fun h18 => have f20 := f28.2 h18
  WP.aload_n (pc2 := 49) (i := 0) rfl (by decide +kernel) rfl <|
  WP.iconst (pc2 := 50) (x := -1) rfl (by decide +kernel) (by decide) <|
  WP.putI (pc2 := 53) rfl (by decide +kernel) zc_2 zSh_4 (by decide) rfl lf_X2_18 rfl (z_int _) rfl <|
  WP.iload_n (pc2 := 54) (i := 3) rfl (by decide +kernel) rfl <|
  WP.iret (by decide +kernel) rfl (fun hx => ⟨_, rfl, hx, rfl, f20⟩))) (fun h27 => have f29 := f30.2 h27
  WP.aload_n (pc2 := 39) (i := 0) rfl (by decide +kernel) rfl <|
  WP.aload_n (pc2 := 40) (i := 2) rfl (by decide +kernel) rfl <|
  WP.callV (y := mX2_faultOf) (index := 44) (pc2 := 43) (y' := mX2_faultOfWays) (vs := [.inr (some (30, j2))]) rfl (by decide +kernel) okX2_faultOfWays ⟨by decide, by decide⟩ ⟨lm_X2_44, ivX2_faultOfWays⟩ zSh_4 zc_2 (Nat.le_of_ble_eq_true rfl) ⟨rfl, rfl⟩ rfl (WP.c1i f29 (fun x21 hi22 _ f26 =>
  WP.istore_n (pc2 := 44) (i := 3) rfl (by decide +kernel) (by decide) <|
  WP.iload_n (pc2 := 45) (i := 3) rfl (by decide +kernel) rfl <|
  WP.if_ne (pc2 := 48) (off := 8) (tgt := 53) rfl (by decide +kernel) (by decide) (fun h23 => have f24 := f26.1 h23
  WP.iload_n (pc2 := 54) (i := 3) rfl (by decide +kernel) rfl <|
  WP.iret (by decide +kernel) rfl (fun hx => ⟨_, rfl, hx, rfl, f24⟩)) (fun h23 => have f25 := f26.2 h23
  WP.aload_n (pc2 := 49) (i := 0) rfl (by decide +kernel) rfl <|
  WP.iconst (pc2 := 50) (x := -1) rfl (by decide +kernel) (by decide) <|
  WP.putI (pc2 := 53) rfl (by decide +kernel) zc_2 zSh_4 (by decide) rfl lf_X2_18 rfl (z_int _) rfl <|
  WP.iload_n (pc2 := 54) (i := 3) rfl (by decide +kernel) rfl <|
  WP.iret (by decide +kernel) rfl (fun hx => ⟨_, rfl, hx, rfl, f25⟩)))))))))))))))
set_option maxRecDepth 100000 in
set_option maxHeartbeats 4000000 in
theorem GX2_faultOfSigns {hi : zI} {hr : zR} {P : Int → zI → Prop} (j2 : Int) (hj2 : 0 ≤ j2 ∧ j2 < 2)
    (F : WP mX2_faultOfSigns 2 [some (.inr (some (4, 0))), some (.inr (some (2, 0))), some (.inr (some (30, j2))), some (.inl 0), none] [] hi hr (zQ1i hr P)) :
    W1i mX2_faultOfSigns [.inr (some (4, 0)), .inr (some (2, 0)), .inr (some (30, j2))] hi hr P :=
  WPm.of rfl (show WP mX2_faultOfSigns 0 [some (.inr (some (4, 0))), some (.inr (some (2, 0))), some (.inr (some (30, j2))), none, none] [] hi hr (zQ1i hr P) from
  WP.iconst (pc2 := 1) (x := 0) rfl (by decide +kernel) (by decide) <|
  WP.istore_n (pc2 := 2) (i := 3) rfl (by decide +kernel) (by decide) <|
  F)

set_option maxRecDepth 100000 in
set_option maxHeartbeats 4000000 in
theorem GX2_faultOfSigns_2 {hi : zI} {hr : zR} {P : Int → zI → Prop} (hR : RSc hr) (j2 : Int) (a3 : Int) (u4 : Option zV) (hj2 : 0 ≤ j2 ∧ j2 < 2)
    (F : (hi 2 0 1 ≤ a3 → ((hi 4 0 3 ≤ 0 → (W1i mX2_endLine [.inr (some (4, 0)), .inr (some (30, j2))] (zup hi 4 0 2 (hi 2 0 1)) hr (fun (x37 : Int) (hi38 : zI) => P x37 hi38))) ∧ (0 < hi 4 0 3 → ((hi 4 0 4 ≠ 0 → (W1i mX2_endLine [.inr (some (4, 0)), .inr (some (30, j2))] (zup hi 4 0 2 (hi 2 0 1)) hr (fun (x40 : Int) (hi41 : zI) => P x40 hi41))) ∧ (hi 4 0 4 = 0 → (P 0 (zup hi 4 0 2 (hi 2 0 1)))))))) ∧ (a3 < hi 2 0 1 → ((400 ≤ a3 → ((hi 4 0 3 ≤ 0 → (W1i mX2_endLine [.inr (some (4, 0)), .inr (some (30, j2))] (zup hi 4 0 2 (hi 2 0 1)) hr (fun (x49 : Int) (hi50 : zI) => P x49 hi50))) ∧ (0 < hi 4 0 3 → ((hi 4 0 4 ≠ 0 → (W1i mX2_endLine [.inr (some (4, 0)), .inr (some (30, j2))] (zup hi 4 0 2 (hi 2 0 1)) hr (fun (x52 : Int) (hi53 : zI) => P x52 hi53))) ∧ (hi 4 0 4 = 0 → (P 0 (zup hi 4 0 2 (hi 2 0 1)))))))) ∧ (a3 < 400 → ((0 ≤ a3 ∧ a3 < 400) ∧ (W1i mX2_takeByte [.inr (some (4, 0)), .inl (hi 3 0 a3), .inr (some (30, j2))] hi hr (fun (x61 : Int) (hi62 : zI) => (x61 = 0 → ((zInR (a3 + 1)) ∧ (WP mX2_faultOfSigns 2 [some (.inr (some (4, 0))), some (.inr (some (2, 0))), some (.inr (some (30, j2))), some (.inl (a3 + 1)), some (.inl x61)] [] hi62 hr (zQ1i hr P)))) ∧ (x61 ≠ 0 → (P x61 (zup hi62 4 0 2 a3)))))))))) :
    WP mX2_faultOfSigns 2 [some (.inr (some (4, 0))), some (.inr (some (2, 0))), some (.inr (some (30, j2))), some (.inl a3), u4] [] hi hr (zQ1i hr P) :=
  WP.iload_n (pc2 := 3) (i := 3) rfl (by decide +kernel) rfl <|
  WP.aload_n (pc2 := 4) (i := 1) rfl (by decide +kernel) rfl <|
  WP.getI (pc2 := 7) rfl (by decide +kernel) zc_7 zSh_2 (by decide) rfl lf_X2_47 rfl rfl <|
  WP.icmp_ge (pc2 := 10) (off := 42) (tgt := 49) rfl (by decide +kernel) (by decide) (fun h70 => have f71 := F.1 h70
  WP.aload_n (pc2 := 50) (i := 0) rfl (by decide +kernel) rfl <|
  WP.aload_n (pc2 := 51) (i := 1) rfl (by decide +kernel) rfl <|
  WP.getI (pc2 := 54) rfl (by decide +kernel) zc_7 zSh_2 (by decide) rfl lf_X2_47 rfl rfl <|
  WP.putI (pc2 := 57) rfl (by decide +kernel) zc_2 zSh_4 (by decide) rfl lf_X2_18 rfl (z_int _) rfl <|
  WP.aload_n (pc2 := 58) (i := 0) rfl (by decide +kernel) rfl <|
  WP.getI (pc2 := 61) rfl (by decide +kernel) zc_2 zSh_4 (by decide) rfl lf_X2_27 rfl (zup_f _ _ _ _ _ _ (by decide)) <|
  WP.if_le (pc2 := 64) (off := 14) (tgt := 75) rfl (by decide +kernel) (by decide) (fun h46 => have f47 := f71.1 h46
  WP.iconst (pc2 := 76) (x := 0) rfl (by decide +kernel) (by decide) <|
  WP.istore_n (pc2 := 77) (i := 3) rfl (by decide +kernel) (by decide) <|
  WP.iload_n (pc2 := 78) (i := 3) rfl (by decide +kernel) rfl <|
  WP.if_eq (pc2 := 81) (off := 7) (tgt := 85) rfl (by decide +kernel) (by decide) (fun _ =>
  WP.aload_n (pc2 := 86) (i := 0) rfl (by decide +kernel) rfl <|
  WP.aload_n (pc2 := 87) (i := 2) rfl (by decide +kernel) rfl <|
  WP.callV (y := mX2_faultOfSigns) (index := 60) (pc2 := 90) (y' := mX2_endLine) (vs := [.inr (some (30, j2))]) rfl (by decide +kernel) okX2_endLine ⟨by decide, by decide⟩ ⟨lm_X2_60, ivX2_endLine⟩ zSh_4 zc_2 (Nat.le_of_ble_eq_true rfl) ⟨rfl, rfl⟩ rfl (WP.c1i f47 (fun x37 hi38 _ f39 =>
  WP.iret (by decide +kernel) rfl (fun hx => ⟨_, rfl, hx, rfl, f39⟩)))) (fun h => absurd h (by decide))) (fun h46 => have f48 := f71.2 h46
  WP.aload_n (pc2 := 65) (i := 0) rfl (by decide +kernel) rfl <|
  WP.getI (pc2 := 68) rfl (by decide +kernel) zc_2 zSh_4 (by decide) rfl lf_X2_30 rfl (zup_f _ _ _ _ _ _ (by decide)) <|
  WP.if_ne (pc2 := 71) (off := 7) (tgt := 75) rfl (by decide +kernel) (by decide) (fun h43 => have f44 := f48.1 h43
  WP.iconst (pc2 := 76) (x := 0) rfl (by decide +kernel) (by decide) <|
  WP.istore_n (pc2 := 77) (i := 3) rfl (by decide +kernel) (by decide) <|
  WP.iload_n (pc2 := 78) (i := 3) rfl (by decide +kernel) rfl <|
  WP.if_eq (pc2 := 81) (off := 7) (tgt := 85) rfl (by decide +kernel) (by decide) (fun _ =>
  WP.aload_n (pc2 := 86) (i := 0) rfl (by decide +kernel) rfl <|
  WP.aload_n (pc2 := 87) (i := 2) rfl (by decide +kernel) rfl <|
  WP.callV (y := mX2_faultOfSigns) (index := 60) (pc2 := 90) (y' := mX2_endLine) (vs := [.inr (some (30, j2))]) rfl (by decide +kernel) okX2_endLine ⟨by decide, by decide⟩ ⟨lm_X2_60, ivX2_endLine⟩ zSh_4 zc_2 (Nat.le_of_ble_eq_true rfl) ⟨rfl, rfl⟩ rfl (WP.c1i f44 (fun x40 hi41 _ f42 =>
  WP.iret (by decide +kernel) rfl (fun hx => ⟨_, rfl, hx, rfl, f42⟩)))) (fun h => absurd h (by decide))) (fun h43 => have f45 := f48.2 h43
  WP.iconst (pc2 := 72) (x := 1) rfl (by decide +kernel) (by decide) <|
  WP.goto (off := 4) (tgt := 76) (by decide +kernel) (by decide) <|
  WP.istore_n (pc2 := 77) (i := 3) rfl (by decide +kernel) (by decide) <|
  WP.iload_n (pc2 := 78) (i := 3) rfl (by decide +kernel) rfl <|
  WP.if_eq (pc2 := 81) (off := 7) (tgt := 85) rfl (by decide +kernel) (by decide) (fun h => absurd h (by decide)) (fun _ =>
  WP.iconst (pc2 := 82) (x := 0) rfl (by decide +kernel) (by decide) <|
  WP.goto (off := 8) (tgt := 90) (by decide +kernel) (by decide) <|
  WP.iret (by decide +kernel) rfl (fun hx => ⟨_, rfl, hx, rfl, f45⟩))))) (fun h70 => have f72 := F.2 h70
  WP.iload_n (pc2 := 11) (i := 3) rfl (by decide +kernel) rfl <|
  WP.sipush (pc2 := 14) (x := 400) rfl (by decide +kernel) ⟨by decide +kernel, by decide⟩ <|
  WP.icmp_ge (pc2 := 17) (off := 35) (tgt := 49) rfl (by decide +kernel) (by decide) (fun h67 => have f68 := f72.1 h67
  WP.aload_n (pc2 := 50) (i := 0) rfl (by decide +kernel) rfl <|
  WP.aload_n (pc2 := 51) (i := 1) rfl (by decide +kernel) rfl <|
  WP.getI (pc2 := 54) rfl (by decide +kernel) zc_7 zSh_2 (by decide) rfl lf_X2_47 rfl rfl <|
  WP.putI (pc2 := 57) rfl (by decide +kernel) zc_2 zSh_4 (by decide) rfl lf_X2_18 rfl (z_int _) rfl <|
  WP.aload_n (pc2 := 58) (i := 0) rfl (by decide +kernel) rfl <|
  WP.getI (pc2 := 61) rfl (by decide +kernel) zc_2 zSh_4 (by decide) rfl lf_X2_27 rfl (zup_f _ _ _ _ _ _ (by decide)) <|
  WP.if_le (pc2 := 64) (off := 14) (tgt := 75) rfl (by decide +kernel) (by decide) (fun h58 => have f59 := f68.1 h58
  WP.iconst (pc2 := 76) (x := 0) rfl (by decide +kernel) (by decide) <|
  WP.istore_n (pc2 := 77) (i := 3) rfl (by decide +kernel) (by decide) <|
  WP.iload_n (pc2 := 78) (i := 3) rfl (by decide +kernel) rfl <|
  WP.if_eq (pc2 := 81) (off := 7) (tgt := 85) rfl (by decide +kernel) (by decide) (fun _ =>
  WP.aload_n (pc2 := 86) (i := 0) rfl (by decide +kernel) rfl <|
  WP.aload_n (pc2 := 87) (i := 2) rfl (by decide +kernel) rfl <|
  WP.callV (y := mX2_faultOfSigns) (index := 60) (pc2 := 90) (y' := mX2_endLine) (vs := [.inr (some (30, j2))]) rfl (by decide +kernel) okX2_endLine ⟨by decide, by decide⟩ ⟨lm_X2_60, ivX2_endLine⟩ zSh_4 zc_2 (Nat.le_of_ble_eq_true rfl) ⟨rfl, rfl⟩ rfl (WP.c1i f59 (fun x49 hi50 _ f51 =>
  WP.iret (by decide +kernel) rfl (fun hx => ⟨_, rfl, hx, rfl, f51⟩)))) (fun h => absurd h (by decide))) (fun h58 => have f60 := f68.2 h58
  WP.aload_n (pc2 := 65) (i := 0) rfl (by decide +kernel) rfl <|
  WP.getI (pc2 := 68) rfl (by decide +kernel) zc_2 zSh_4 (by decide) rfl lf_X2_30 rfl (zup_f _ _ _ _ _ _ (by decide)) <|
  WP.if_ne (pc2 := 71) (off := 7) (tgt := 75) rfl (by decide +kernel) (by decide) (fun h55 => have f56 := f60.1 h55
  WP.iconst (pc2 := 76) (x := 0) rfl (by decide +kernel) (by decide) <|
  WP.istore_n (pc2 := 77) (i := 3) rfl (by decide +kernel) (by decide) <|
  WP.iload_n (pc2 := 78) (i := 3) rfl (by decide +kernel) rfl <|
  WP.if_eq (pc2 := 81) (off := 7) (tgt := 85) rfl (by decide +kernel) (by decide) (fun _ =>
  WP.aload_n (pc2 := 86) (i := 0) rfl (by decide +kernel) rfl <|
  WP.aload_n (pc2 := 87) (i := 2) rfl (by decide +kernel) rfl <|
  WP.callV (y := mX2_faultOfSigns) (index := 60) (pc2 := 90) (y' := mX2_endLine) (vs := [.inr (some (30, j2))]) rfl (by decide +kernel) okX2_endLine ⟨by decide, by decide⟩ ⟨lm_X2_60, ivX2_endLine⟩ zSh_4 zc_2 (Nat.le_of_ble_eq_true rfl) ⟨rfl, rfl⟩ rfl (WP.c1i f56 (fun x52 hi53 _ f54 =>
  WP.iret (by decide +kernel) rfl (fun hx => ⟨_, rfl, hx, rfl, f54⟩)))) (fun h => absurd h (by decide))) (fun h55 => have f57 := f60.2 h55
  WP.iconst (pc2 := 72) (x := 1) rfl (by decide +kernel) (by decide) <|
  WP.goto (off := 4) (tgt := 76) (by decide +kernel) (by decide) <|
  WP.istore_n (pc2 := 77) (i := 3) rfl (by decide +kernel) (by decide) <|
  WP.iload_n (pc2 := 78) (i := 3) rfl (by decide +kernel) rfl <|
  WP.if_eq (pc2 := 81) (off := 7) (tgt := 85) rfl (by decide +kernel) (by decide) (fun h => absurd h (by decide)) (fun _ =>
  WP.iconst (pc2 := 82) (x := 0) rfl (by decide +kernel) (by decide) <|
  WP.goto (off := 8) (tgt := 90) (by decide +kernel) (by decide) <|
  WP.iret (by decide +kernel) rfl (fun hx => ⟨_, rfl, hx, rfl, f57⟩))))) (fun h67 => have f69 := f72.2 h67
  WP.aload_n (pc2 := 18) (i := 0) rfl (by decide +kernel) rfl <|
  WP.aload_n (pc2 := 19) (i := 1) rfl (by decide +kernel) rfl <|
  WP.getR (pc2 := 22) rfl (by decide +kernel) zc_7 zSh_2 (by decide) rfl lf_X2_52 rfl (rs_2_0 hR) <|
  WP.iload_n (pc2 := 23) (i := 3) rfl (by decide +kernel) rfl <|
  WP.baload (pc2 := 24) rfl (by decide +kernel) zSh_3 (by decide) rfl f69.1 rfl <|
  WP.aload_n (pc2 := 25) (i := 2) rfl (by decide +kernel) rfl <|
  WP.callV (y := mX2_faultOfSigns) (index := 56) (pc2 := 28) (y' := mX2_takeByte) (vs := [.inl (hi 3 0 a3), .inr (some (30, j2))]) rfl (by decide +kernel) okX2_takeByte ⟨by decide, by decide⟩ ⟨lm_X2_56, ivX2_takeByte⟩ zSh_4 zc_2 (Nat.le_of_ble_eq_true rfl) ⟨rfl, rfl⟩ rfl (WP.c1i f69.2 (fun x61 hi62 _ f66 =>
  WP.istore (pc2 := 30) (i := 4) rfl (by decide +kernel) (by decide) <|
  WP.iload (pc2 := 32) (i := 4) rfl (by decide +kernel) rfl <|
  WP.if_eq (pc2 := 35) (off := 11) (tgt := 43) rfl (by decide +kernel) (by decide) (fun h63 => have f64 := f66.1 h63
  WP.iinc (pc2 := 46) (i := 3) (d := 1) rfl (by decide +kernel) rfl f64.1 <|
  WP.goto (off := -44) (tgt := 2) (by decide +kernel) (by decide) <|
  f64.2) (fun h63 => have f65 := f66.2 h63
  WP.aload_n (pc2 := 36) (i := 0) rfl (by decide +kernel) rfl <|
  WP.iload_n (pc2 := 37) (i := 3) rfl (by decide +kernel) rfl <|
  WP.putI (pc2 := 40) rfl (by decide +kernel) zc_2 zSh_4 (by decide) rfl lf_X2_18 rfl (z_int _) rfl <|
  WP.iload (pc2 := 42) (i := 4) rfl (by decide +kernel) rfl <|
  WP.iret (by decide +kernel) rfl (fun hx => ⟨_, rfl, hx, rfl, f65⟩))))))
set_option maxRecDepth 100000 in
set_option maxHeartbeats 4000000 in
theorem GX2_takeByte {hi : zI} {hr : zR} {P : Int → zI → Prop} (l1 : Int) (j2 : Int) (hj2 : 0 ≤ j2 ∧ j2 < 2)
    (F : (l1 ≠ 10 → (W0i mX2_kindOfSign [.inl l1] hi hr (fun (x1 : Int) => (x1 ≠ -1 → ((hi 4 0 3 ≤ 0 → ((16 ≤ hi 4 0 3 → P 3 hi) ∧ (hi 4 0 3 < 16 → ((hi 4 0 4 < 16 → (W1v mX10_addCell [.inr (some (30, j2)), .inl x1] hi hr (fun (hi2 : zI) => (zInR ((hi2 4 0 4) + 1)) ∧ (P 0 (zup hi2 4 0 4 ((hi2 4 0 4) + 1)))))) ∧ (16 ≤ hi 4 0 4 → P 3 hi))))) ∧ (0 < hi 4 0 3 → ((hi 4 0 4 < hi 30 j2 6 → ((16 ≤ hi 4 0 3 → P 3 hi) ∧ (hi 4 0 3 < 16 → ((hi 4 0 4 < 16 → (W1v mX10_addCell [.inr (some (30, j2)), .inl x1] hi hr (fun (hi10 : zI) => (zInR ((hi10 4 0 4) + 1)) ∧ (P 0 (zup hi10 4 0 4 ((hi10 4 0 4) + 1)))))) ∧ (16 ≤ hi 4 0 4 → P 3 hi))))) ∧ (hi 30 j2 6 ≤ hi 4 0 4 → P 2 hi))))) ∧ (x1 = -1 → P 1 hi)))) ∧ (l1 = 10 → (W1i mX2_endLine [.inr (some (4, 0)), .inr (some (30, j2))] hi hr (fun (x28 : Int) (hi29 : zI) => P x28 hi29)))) :
    W1i mX2_takeByte [.inr (some (4, 0)), .inl l1, .inr (some (30, j2))] hi hr P :=
  WPm.of rfl (show WP mX2_takeByte 0 [some (.inr (some (4, 0))), some (.inl l1), some (.inr (some (30, j2))), none] [] hi hr (zQ1i hr P) from
  WP.iload_n (pc2 := 1) (i := 1) rfl (by decide +kernel) rfl <|
  WP.bipush (pc2 := 3) (x := 10) rfl (by decide +kernel) ⟨by decide +kernel, by decide⟩ <|
  WP.icmp_ne (pc2 := 6) (off := 9) (tgt := 12) rfl (by decide +kernel) (by decide) (fun h31 => have f32 := F.1 h31
  WP.iload_n (pc2 := 13) (i := 1) rfl (by decide +kernel) rfl <|
  WP.callS (y := mX2_takeByte) (index := 63) (pc2 := 16) (y' := mX2_kindOfSign) (vs := [.inl l1]) rfl (by decide +kernel) okX2_kindOfSign ⟨by decide, by decide⟩ ⟨lm_X2_63, ivX2_kindOfSign⟩ (Nat.le_of_ble_eq_true rfl) ⟨rfl, rfl⟩ rfl (WP.c0i f32 (fun x1 _ f27 =>
  WP.istore_n (pc2 := 17) (i := 3) rfl (by decide +kernel) (by decide) <|
  WP.iload_n (pc2 := 18) (i := 3) rfl (by decide +kernel) rfl <|
  WP.iconst (pc2 := 19) (x := -1) rfl (by decide +kernel) (by decide) <|
  WP.icmp_ne (pc2 := 22) (off := 5) (tgt := 24) rfl (by decide +kernel) (by decide) (fun h24 => have f25 := f27.1 h24
  WP.aload_n (pc2 := 25) (i := 0) rfl (by decide +kernel) rfl <|
  WP.getI (pc2 := 28) rfl (by decide +kernel) zc_2 zSh_4 (by decide) rfl lf_X2_27 rfl rfl <|
  WP.if_le (pc2 := 31) (off := 16) (tgt := 44) rfl (by decide +kernel) (by decide) (fun h21 => have f22 := f25.1 h21
  WP.aload_n (pc2 := 45) (i := 0) rfl (by decide +kernel) rfl <|
  WP.getI (pc2 := 48) rfl (by decide +kernel) zc_2 zSh_4 (by decide) rfl lf_X2_27 rfl rfl <|
  WP.bipush (pc2 := 50) (x := 16) rfl (by decide +kernel) ⟨by decide +kernel, by decide⟩ <|
  WP.icmp_ge (pc2 := 53) (off := 12) (tgt := 62) rfl (by decide +kernel) (by decide) (fun h7 => have f8 := f22.1 h7
  WP.iconst (pc2 := 63) (x := 3) rfl (by decide +kernel) (by decide) <|
  WP.iret (by decide +kernel) rfl (fun hx => ⟨_, rfl, hx, rfl, f8⟩)) (fun h7 => have f9 := f22.2 h7
  WP.aload_n (pc2 := 54) (i := 0) rfl (by decide +kernel) rfl <|
  WP.getI (pc2 := 57) rfl (by decide +kernel) zc_2 zSh_4 (by decide) rfl lf_X2_30 rfl rfl <|
  WP.bipush (pc2 := 59) (x := 16) rfl (by decide +kernel) ⟨by decide +kernel, by decide⟩ <|
  WP.icmp_lt (pc2 := 62) (off := 5) (tgt := 64) rfl (by decide +kernel) (by decide) (fun h4 => have f5 := f9.1 h4
  WP.aload_n (pc2 := 65) (i := 2) rfl (by decide +kernel) rfl <|
  WP.iload_n (pc2 := 66) (i := 3) rfl (by decide +kernel) rfl <|
  WP.callV (y := mX2_takeByte) (index := 70) (pc2 := 69) (y' := mX10_addCell) (vs := [.inl x1]) rfl (by decide +kernel) okX10_addCell ⟨by decide, by decide⟩ ⟨lm_X2_70, ivX10_addCell⟩ zSh_30 zc_10 (Nat.le_of_ble_eq_true rfl) ⟨rfl, rfl⟩ rfl (WP.c1v f5 (fun hi2 f3 =>
  WP.aload_n (pc2 := 70) (i := 0) rfl (by decide +kernel) rfl <|
  WP.dup (pc2 := 71) rfl (by decide +kernel) <|
  WP.getI (pc2 := 74) rfl (by decide +kernel) zc_2 zSh_4 (by decide) rfl lf_X2_30 rfl rfl <|
  WP.iconst (pc2 := 75) (x := 1) rfl (by decide +kernel) (by decide) <|
  WP.iadd (pc2 := 76) rfl (by decide +kernel) f3.1 <|
  WP.putI (pc2 := 79) rfl (by decide +kernel) zc_2 zSh_4 (by decide) rfl lf_X2_30 rfl (z_int _) rfl <|
  WP.iconst (pc2 := 80) (x := 0) rfl (by decide +kernel) (by decide) <|
  WP.iret (by decide +kernel) rfl (fun hx => ⟨_, rfl, hx, rfl, f3.2⟩)))) (fun h4 => have f6 := f9.2 h4
  WP.iconst (pc2 := 63) (x := 3) rfl (by decide +kernel) (by decide) <|
  WP.iret (by decide +kernel) rfl (fun hx => ⟨_, rfl, hx, rfl, f6⟩)))) (fun h21 => have f23 := f25.2 h21
  WP.aload_n (pc2 := 32) (i := 0) rfl (by decide +kernel) rfl <|
  WP.getI (pc2 := 35) rfl (by decide +kernel) zc_2 zSh_4 (by decide) rfl lf_X2_30 rfl rfl <|
  WP.aload_n (pc2 := 36) (i := 2) rfl (by decide +kernel) rfl <|
  WP.getI (pc2 := 39) rfl (by decide +kernel) zc_10 zSh_30 (by decide) rfl lf_X2_67 rfl rfl <|
  WP.icmp_lt (pc2 := 42) (off := 5) (tgt := 44) rfl (by decide +kernel) (by decide) (fun h18 => have f19 := f23.1 h18
  WP.aload_n (pc2 := 45) (i := 0) rfl (by decide +kernel) rfl <|
  WP.getI (pc2 := 48) rfl (by decide +kernel) zc_2 zSh_4 (by decide) rfl lf_X2_27 rfl rfl <|
  WP.bipush (pc2 := 50) (x := 16) rfl (by decide +kernel) ⟨by decide +kernel, by decide⟩ <|
  WP.icmp_ge (pc2 := 53) (off := 12) (tgt := 62) rfl (by decide +kernel) (by decide) (fun h15 => have f16 := f19.1 h15
  WP.iconst (pc2 := 63) (x := 3) rfl (by decide +kernel) (by decide) <|
  WP.iret (by decide +kernel) rfl (fun hx => ⟨_, rfl, hx, rfl, f16⟩)) (fun h15 => have f17 := f19.2 h15
  WP.aload_n (pc2 := 54) (i := 0) rfl (by decide +kernel) rfl <|
  WP.getI (pc2 := 57) rfl (by decide +kernel) zc_2 zSh_4 (by decide) rfl lf_X2_30 rfl rfl <|
  WP.bipush (pc2 := 59) (x := 16) rfl (by decide +kernel) ⟨by decide +kernel, by decide⟩ <|
  WP.icmp_lt (pc2 := 62) (off := 5) (tgt := 64) rfl (by decide +kernel) (by decide) (fun h12 => have f13 := f17.1 h12
  WP.aload_n (pc2 := 65) (i := 2) rfl (by decide +kernel) rfl <|
  WP.iload_n (pc2 := 66) (i := 3) rfl (by decide +kernel) rfl <|
  WP.callV (y := mX2_takeByte) (index := 70) (pc2 := 69) (y' := mX10_addCell) (vs := [.inl x1]) rfl (by decide +kernel) okX10_addCell ⟨by decide, by decide⟩ ⟨lm_X2_70, ivX10_addCell⟩ zSh_30 zc_10 (Nat.le_of_ble_eq_true rfl) ⟨rfl, rfl⟩ rfl (WP.c1v f13 (fun hi10 f11 =>
  WP.aload_n (pc2 := 70) (i := 0) rfl (by decide +kernel) rfl <|
  WP.dup (pc2 := 71) rfl (by decide +kernel) <|
  WP.getI (pc2 := 74) rfl (by decide +kernel) zc_2 zSh_4 (by decide) rfl lf_X2_30 rfl rfl <|
  WP.iconst (pc2 := 75) (x := 1) rfl (by decide +kernel) (by decide) <|
  WP.iadd (pc2 := 76) rfl (by decide +kernel) f11.1 <|
  WP.putI (pc2 := 79) rfl (by decide +kernel) zc_2 zSh_4 (by decide) rfl lf_X2_30 rfl (z_int _) rfl <|
  WP.iconst (pc2 := 80) (x := 0) rfl (by decide +kernel) (by decide) <|
  WP.iret (by decide +kernel) rfl (fun hx => ⟨_, rfl, hx, rfl, f11.2⟩)))) (fun h12 => have f14 := f17.2 h12
  WP.iconst (pc2 := 63) (x := 3) rfl (by decide +kernel) (by decide) <|
  WP.iret (by decide +kernel) rfl (fun hx => ⟨_, rfl, hx, rfl, f14⟩)))) (fun h18 => have f20 := f23.2 h18
  WP.iconst (pc2 := 43) (x := 2) rfl (by decide +kernel) (by decide) <|
  WP.iret (by decide +kernel) rfl (fun hx => ⟨_, rfl, hx, rfl, f20⟩)))) (fun h24 => have f26 := f27.2 h24
  WP.iconst (pc2 := 23) (x := 1) rfl (by decide +kernel) (by decide) <|
  WP.iret (by decide +kernel) rfl (fun hx => ⟨_, rfl, hx, rfl, f26⟩))))) (fun h31 => have f33 := F.2 h31
  WP.aload_n (pc2 := 7) (i := 0) rfl (by decide +kernel) rfl <|
  WP.aload_n (pc2 := 8) (i := 2) rfl (by decide +kernel) rfl <|
  WP.callV (y := mX2_takeByte) (index := 60) (pc2 := 11) (y' := mX2_endLine) (vs := [.inr (some (30, j2))]) rfl (by decide +kernel) okX2_endLine ⟨by decide, by decide⟩ ⟨lm_X2_60, ivX2_endLine⟩ zSh_4 zc_2 (Nat.le_of_ble_eq_true rfl) ⟨rfl, rfl⟩ rfl (WP.c1i f33 (fun x28 hi29 _ f30 =>
  WP.iret (by decide +kernel) rfl (fun hx => ⟨_, rfl, hx, rfl, f30⟩)))))
set_option maxRecDepth 100000 in
set_option maxHeartbeats 4000000 in
theorem GX2_endLine {hi : zI} {hr : zR} {P : Int → zI → Prop} (j1 : Int) (hj1 : 0 ≤ j1 ∧ j1 < 2)
    (F : (hi 4 0 3 ≠ 0 → ((hi 4 0 4 = 0 → P 2 hi) ∧ (hi 4 0 4 ≠ 0 → ((hi 30 j1 6 ≤ hi 4 0 4 → ((zInR ((hi 4 0 3) + 1)) ∧ (P 0 (zup (zup hi 4 0 3 ((hi 4 0 3) + 1)) 4 0 4 0)))) ∧ (hi 4 0 4 < hi 30 j1 6 → P 2 hi))))) ∧ (hi 4 0 3 = 0 → ((hi 4 0 4 = 0 → (P 2 (zup hi 30 j1 6 (hi 4 0 4)))) ∧ (hi 4 0 4 ≠ 0 → ((hi 4 0 4 ≤ hi 4 0 4 → ((zInR ((hi 4 0 3) + 1)) ∧ (P 0 (zup (zup (zup hi 30 j1 6 (hi 4 0 4)) 4 0 3 ((hi 4 0 3) + 1)) 4 0 4 0)))) ∧ (hi 4 0 4 < hi 4 0 4 → (P 2 (zup hi 30 j1 6 (hi 4 0 4))))))))) :
    W1i mX2_endLine [.inr (some (4, 0)), .inr (some (30, j1))] hi hr P :=
  WPm.of rfl (show WP mX2_endLine 0 [some (.inr (some (4, 0))), some (.inr (some (30, j1)))] [] hi hr (zQ1i hr P) from
  WP.aload_n (pc2 := 1) (i := 0) rfl (by decide +kernel) rfl <|
  WP.getI (pc2 := 4) rfl (by decide +kernel) zc_2 zSh_4 (by decide) rfl lf_X2_27 rfl rfl <|
  WP.if_ne (pc2 := 7) (off := 11) (tgt := 15) rfl (by decide +kernel) (by decide) (fun h13 => have f14 := F.1 h13
  WP.aload_n (pc2 := 16) (i := 0) rfl (by decide +kernel) rfl <|
  WP.getI (pc2 := 19) rfl (by decide +kernel) zc_2 zSh_4 (by decide) rfl lf_X2_30 rfl rfl <|
  WP.if_eq (pc2 := 22) (off := 14) (tgt := 33) rfl (by decide +kernel) (by decide) (fun h4 => have f5 := f14.1 h4
  WP.iconst (pc2 := 34) (x := 2) rfl (by decide +kernel) (by decide) <|
  WP.iret (by decide +kernel) rfl (fun hx => ⟨_, rfl, hx, rfl, f5⟩)) (fun h4 => have f6 := f14.2 h4
  WP.aload_n (pc2 := 23) (i := 0) rfl (by decide +kernel) rfl <|
  WP.getI (pc2 := 26) rfl (by decide +kernel) zc_2 zSh_4 (by decide) rfl lf_X2_30 rfl rfl <|
  WP.aload_n (pc2 := 27) (i := 1) rfl (by decide +kernel) rfl <|
  WP.getI (pc2 := 30) rfl (by decide +kernel) zc_10 zSh_30 (by decide) rfl lf_X2_67 rfl rfl <|
  WP.icmp_ge (pc2 := 33) (off := 5) (tgt := 35) rfl (by decide +kernel) (by decide) (fun h1 => have f2 := f6.1 h1
  WP.aload_n (pc2 := 36) (i := 0) rfl (by decide +kernel) rfl <|
  WP.dup (pc2 := 37) rfl (by decide +kernel) <|
  WP.getI (pc2 := 40) rfl (by decide +kernel) zc_2 zSh_4 (by decide) rfl lf_X2_27 rfl rfl <|
  WP.iconst (pc2 := 41) (x := 1) rfl (by decide +kernel) (by decide) <|
  WP.iadd (pc2 := 42) rfl (by decide +kernel) f2.1 <|
  WP.putI (pc2 := 45) rfl (by decide +kernel) zc_2 zSh_4 (by decide) rfl lf_X2_27 rfl (z_int _) rfl <|
  WP.aload_n (pc2 := 46) (i := 0) rfl (by decide +kernel) rfl <|
  WP.iconst (pc2 := 47) (x := 0) rfl (by decide +kernel) (by decide) <|
  WP.putI (pc2 := 50) rfl (by decide +kernel) zc_2 zSh_4 (by decide) rfl lf_X2_30 rfl (z_int _) rfl <|
  WP.iconst (pc2 := 51) (x := 0) rfl (by decide +kernel) (by decide) <|
  WP.iret (by decide +kernel) rfl (fun hx => ⟨_, rfl, hx, rfl, f2.2⟩)) (fun h1 => have f3 := f6.2 h1
  WP.iconst (pc2 := 34) (x := 2) rfl (by decide +kernel) (by decide) <|
  WP.iret (by decide +kernel) rfl (fun hx => ⟨_, rfl, hx, rfl, f3⟩)))) (fun h13 => have f15 := F.2 h13
  WP.aload_n (pc2 := 8) (i := 1) rfl (by decide +kernel) rfl <|
  WP.aload_n (pc2 := 9) (i := 0) rfl (by decide +kernel) rfl <|
  WP.getI (pc2 := 12) rfl (by decide +kernel) zc_2 zSh_4 (by decide) rfl lf_X2_30 rfl rfl <|
  WP.putI (pc2 := 15) rfl (by decide +kernel) zc_10 zSh_30 (by decide) rfl lf_X2_67 rfl (z_int _) rfl <|
  WP.aload_n (pc2 := 16) (i := 0) rfl (by decide +kernel) rfl <|
  WP.getI (pc2 := 19) rfl (by decide +kernel) zc_2 zSh_4 (by decide) rfl lf_X2_30 rfl (zup_k _ _ _ _ _ _ (by decide)) <|
  WP.if_eq (pc2 := 22) (off := 14) (tgt := 33) rfl (by decide +kernel) (by decide) (fun h10 => have f11 := f15.1 h10
  WP.iconst (pc2 := 34) (x := 2) rfl (by decide +kernel) (by decide) <|
  WP.iret (by decide +kernel) rfl (fun hx => ⟨_, rfl, hx, rfl, f11⟩)) (fun h10 => have f12 := f15.2 h10
  WP.aload_n (pc2 := 23) (i := 0) rfl (by decide +kernel) rfl <|
  WP.getI (pc2 := 26) rfl (by decide +kernel) zc_2 zSh_4 (by decide) rfl lf_X2_30 rfl (zup_k _ _ _ _ _ _ (by decide)) <|
  WP.aload_n (pc2 := 27) (i := 1) rfl (by decide +kernel) rfl <|
  WP.getI (pc2 := 30) rfl (by decide +kernel) zc_10 zSh_30 (by decide) rfl lf_X2_67 rfl (zup_s _ _ _ _ _) <|
  WP.icmp_ge (pc2 := 33) (off := 5) (tgt := 35) rfl (by decide +kernel) (by decide) (fun h7 => have f8 := f12.1 h7
  WP.aload_n (pc2 := 36) (i := 0) rfl (by decide +kernel) rfl <|
  WP.dup (pc2 := 37) rfl (by decide +kernel) <|
  WP.getI (pc2 := 40) rfl (by decide +kernel) zc_2 zSh_4 (by decide) rfl lf_X2_27 rfl (zup_k _ _ _ _ _ _ (by decide)) <|
  WP.iconst (pc2 := 41) (x := 1) rfl (by decide +kernel) (by decide) <|
  WP.iadd (pc2 := 42) rfl (by decide +kernel) f8.1 <|
  WP.putI (pc2 := 45) rfl (by decide +kernel) zc_2 zSh_4 (by decide) rfl lf_X2_27 rfl (z_int _) rfl <|
  WP.aload_n (pc2 := 46) (i := 0) rfl (by decide +kernel) rfl <|
  WP.iconst (pc2 := 47) (x := 0) rfl (by decide +kernel) (by decide) <|
  WP.putI (pc2 := 50) rfl (by decide +kernel) zc_2 zSh_4 (by decide) rfl lf_X2_30 rfl (z_int _) rfl <|
  WP.iconst (pc2 := 51) (x := 0) rfl (by decide +kernel) (by decide) <|
  WP.iret (by decide +kernel) rfl (fun hx => ⟨_, rfl, hx, rfl, f8.2⟩)) (fun h7 => have f9 := f12.2 h7
  WP.iconst (pc2 := 34) (x := 2) rfl (by decide +kernel) (by decide) <|
  WP.iret (by decide +kernel) rfl (fun hx => ⟨_, rfl, hx, rfl, f9⟩)))))
set_option maxRecDepth 100000 in
set_option maxHeartbeats 4000000 in
theorem GX2_kindOfSign {hi : zI} {hr : zR} {P : Int → Prop} (l0 : Int) 
    (F : ((l0 ≠ 35 ∧ l0 ≠ 46 ∧ l0 ≠ 80 ∧ l0 ≠ 83) → (P (-1))) ∧ (l0 = 35 → P 0) ∧ (l0 = 46 → P 1) ∧ (l0 = 80 → P 3) ∧ (l0 = 83 → P 2)) :
    W0i mX2_kindOfSign [.inl l0] hi hr P :=
  WPm.of rfl (show WP mX2_kindOfSign 0 [some (.inl l0)] [] hi hr (zQ0i hi hr P) from
  WP.iload_n (pc2 := 1) (i := 0) rfl (by decide +kernel) rfl <|
  (by
  by_cases h2 : l0 = 35
  · exact WP.lsw (dflt := 51) (ps := #[(35, 43), (46, 45), (80, 49), (83, 47)]) (len := 43) (tgt := 44) (by decide +kernel) (by decide +kernel) (by rw [h2]; decide +kernel) (have f3 := F.2.1 h2
    WP.iconst (pc2 := 45) (x := 0) rfl (by decide +kernel) (by decide) <|
  WP.iret (by decide +kernel) rfl (fun hx => ⟨_, rfl, hx, rfl, rfl, f3⟩))
  by_cases h4 : l0 = 46
  · exact WP.lsw (dflt := 51) (ps := #[(35, 43), (46, 45), (80, 49), (83, 47)]) (len := 43) (tgt := 46) (by decide +kernel) (by decide +kernel) (by rw [h4]; decide +kernel) (have f5 := F.2.2.1 h4
    WP.iconst (pc2 := 47) (x := 1) rfl (by decide +kernel) (by decide) <|
  WP.iret (by decide +kernel) rfl (fun hx => ⟨_, rfl, hx, rfl, rfl, f5⟩))
  by_cases h6 : l0 = 80
  · exact WP.lsw (dflt := 51) (ps := #[(35, 43), (46, 45), (80, 49), (83, 47)]) (len := 43) (tgt := 50) (by decide +kernel) (by decide +kernel) (by rw [h6]; decide +kernel) (have f7 := F.2.2.2.1 h6
    WP.iconst (pc2 := 51) (x := 3) rfl (by decide +kernel) (by decide) <|
  WP.iret (by decide +kernel) rfl (fun hx => ⟨_, rfl, hx, rfl, rfl, f7⟩))
  by_cases h8 : l0 = 83
  · exact WP.lsw (dflt := 51) (ps := #[(35, 43), (46, 45), (80, 49), (83, 47)]) (len := 43) (tgt := 48) (by decide +kernel) (by decide +kernel) (by rw [h8]; decide +kernel) (have f9 := F.2.2.2.2 h8
    WP.iconst (pc2 := 49) (x := 2) rfl (by decide +kernel) (by decide) <|
  WP.iret (by decide +kernel) rfl (fun hx => ⟨_, rfl, hx, rfl, rfl, f9⟩))
  exact WP.lsw (dflt := 51) (ps := #[(35, 43), (46, 45), (80, 49), (83, 47)]) (len := 43) (tgt := 52) (by decide +kernel) (by decide +kernel) (by simp [Op.lookupswitch.offset, List.find?, Ne.symm h2, h2, Ne.symm h4, h4, Ne.symm h6, h6, Ne.symm h8, h8]; try omega) (have f1 := F.1 ⟨h2, h4, h6, h8⟩
    WP.iconst (pc2 := 53) (x := -1) rfl (by decide +kernel) (by decide) <|
  WP.iret (by decide +kernel) rfl (fun hx => ⟨_, rfl, hx, rfl, rfl, f1⟩))))
set_option maxRecDepth 100000 in
set_option maxHeartbeats 4000000 in
theorem GX2_faultOfNumbers {hi : zI} {hr : zR} {P : Int → Prop} (j0 : Int) (hj0 : 0 ≤ j0 ∧ j0 < 2)
    (F : (hi 30 j0 8 < 1 → P 4) ∧ (1 ≤ hi 30 j0 8 → ((6 < hi 30 j0 8 → P 4) ∧ (hi 30 j0 8 ≤ 6 → ((10 < hi 30 j0 7 → P 4) ∧ (hi 30 j0 7 ≤ 10 → P 0)))))) :
    W0i mX2_faultOfNumbers [.inr (some (30, j0))] hi hr P :=
  WPm.of rfl (show WP mX2_faultOfNumbers 0 [some (.inr (some (30, j0))), none] [] hi hr (zQ0i hi hr P) from
  WP.aload_n (pc2 := 1) (i := 0) rfl (by decide +kernel) rfl <|
  WP.getI (pc2 := 4) rfl (by decide +kernel) zc_10 zSh_30 (by decide) rfl lf_X2_74 rfl rfl <|
  WP.iconst (pc2 := 5) (x := 1) rfl (by decide +kernel) (by decide) <|
  WP.icmp_lt (pc2 := 8) (off := 25) (tgt := 30) rfl (by decide +kernel) (by decide) (fun h7 => have f8 := F.1 h7
  WP.iconst (pc2 := 31) (x := 0) rfl (by decide +kernel) (by decide) <|
  WP.istore_n (pc2 := 32) (i := 1) rfl (by decide +kernel) (by decide) <|
  WP.iload_n (pc2 := 33) (i := 1) rfl (by decide +kernel) rfl <|
  WP.if_eq (pc2 := 36) (off := 7) (tgt := 40) rfl (by decide +kernel) (by decide) (fun _ =>
  WP.iconst (pc2 := 41) (x := 4) rfl (by decide +kernel) (by decide) <|
  WP.iret (by decide +kernel) rfl (fun hx => ⟨_, rfl, hx, rfl, rfl, f8⟩)) (fun h => absurd h (by decide))) (fun h7 => have f9 := F.2 h7
  WP.aload_n (pc2 := 9) (i := 0) rfl (by decide +kernel) rfl <|
  WP.getI (pc2 := 12) rfl (by decide +kernel) zc_10 zSh_30 (by decide) rfl lf_X2_74 rfl rfl <|
  WP.bipush (pc2 := 14) (x := 6) rfl (by decide +kernel) ⟨by decide +kernel, by decide⟩ <|
  WP.icmp_gt (pc2 := 17) (off := 16) (tgt := 30) rfl (by decide +kernel) (by decide) (fun h4 => have f5 := f9.1 h4
  WP.iconst (pc2 := 31) (x := 0) rfl (by decide +kernel) (by decide) <|
  WP.istore_n (pc2 := 32) (i := 1) rfl (by decide +kernel) (by decide) <|
  WP.iload_n (pc2 := 33) (i := 1) rfl (by decide +kernel) rfl <|
  WP.if_eq (pc2 := 36) (off := 7) (tgt := 40) rfl (by decide +kernel) (by decide) (fun _ =>
  WP.iconst (pc2 := 41) (x := 4) rfl (by decide +kernel) (by decide) <|
  WP.iret (by decide +kernel) rfl (fun hx => ⟨_, rfl, hx, rfl, rfl, f5⟩)) (fun h => absurd h (by decide))) (fun h4 => have f6 := f9.2 h4
  WP.aload_n (pc2 := 18) (i := 0) rfl (by decide +kernel) rfl <|
  WP.getI (pc2 := 21) rfl (by decide +kernel) zc_10 zSh_30 (by decide) rfl lf_X2_77 rfl rfl <|
  WP.bipush (pc2 := 23) (x := 10) rfl (by decide +kernel) ⟨by decide +kernel, by decide⟩ <|
  WP.icmp_gt (pc2 := 26) (off := 7) (tgt := 30) rfl (by decide +kernel) (by decide) (fun h1 => have f2 := f6.1 h1
  WP.iconst (pc2 := 31) (x := 0) rfl (by decide +kernel) (by decide) <|
  WP.istore_n (pc2 := 32) (i := 1) rfl (by decide +kernel) (by decide) <|
  WP.iload_n (pc2 := 33) (i := 1) rfl (by decide +kernel) rfl <|
  WP.if_eq (pc2 := 36) (off := 7) (tgt := 40) rfl (by decide +kernel) (by decide) (fun _ =>
  WP.iconst (pc2 := 41) (x := 4) rfl (by decide +kernel) (by decide) <|
  WP.iret (by decide +kernel) rfl (fun hx => ⟨_, rfl, hx, rfl, rfl, f2⟩)) (fun h => absurd h (by decide))) (fun h1 => have f3 := f6.2 h1
  WP.iconst (pc2 := 27) (x := 1) rfl (by decide +kernel) (by decide) <|
  WP.goto (off := 4) (tgt := 31) (by decide +kernel) (by decide) <|
  WP.istore_n (pc2 := 32) (i := 1) rfl (by decide +kernel) (by decide) <|
  WP.iload_n (pc2 := 33) (i := 1) rfl (by decide +kernel) rfl <|
  WP.if_eq (pc2 := 36) (off := 7) (tgt := 40) rfl (by decide +kernel) (by decide) (fun h => absurd h (by decide)) (fun _ =>
  WP.iconst (pc2 := 37) (x := 0) rfl (by decide +kernel) (by decide) <|
  WP.goto (off := 4) (tgt := 41) (by decide +kernel) (by decide) <|
  WP.iret (by decide +kernel) rfl (fun hx => ⟨_, rfl, hx, rfl, rfl, f3⟩))))))
set_option maxRecDepth 100000 in
set_option maxHeartbeats 4000000 in
theorem GX2_faultOfWays {hi : zI} {hr : zR} {P : Int → zI → Prop} (j1 : Int) (hj1 : 0 ≤ j1 ∧ j1 < 2)
    (F : WP mX2_faultOfWays 2 [some (.inr (some (4, 0))), some (.inr (some (30, j1))), some (.inl 0)] [] hi hr (zQ1i hr P)) :
    W1i mX2_faultOfWays [.inr (some (4, 0)), .inr (some (30, j1))] hi hr P :=
  WPm.of rfl (show WP mX2_faultOfWays 0 [some (.inr (some (4, 0))), some (.inr (some (30, j1))), none] [] hi hr (zQ1i hr P) from
  WP.iconst (pc2 := 1) (x := 0) rfl (by decide +kernel) (by decide) <|
  WP.istore_n (pc2 := 2) (i := 2) rfl (by decide +kernel) (by decide) <|
  F)

set_option maxRecDepth 100000 in
set_option maxHeartbeats 4000000 in
theorem GX2_faultOfWays_2 {hi : zI} {hr : zR} {P : Int → zI → Prop} (j1 : Int) (a2 : Int) (hj1 : 0 ≤ j1 ∧ j1 < 2)
    (F : (hi 30 j1 5 ≤ a2 → P 0 hi) ∧ (a2 < hi 30 j1 5 → (W0i mX10_isEndpoint [.inr (some (30, j1)), .inl a2] hi hr (fun (x1 : Int) => (x1 = 0 → ((zInR (a2 + 1)) ∧ (WP mX2_faultOfWays 2 [some (.inr (some (4, 0))), some (.inr (some (30, j1))), some (.inl (a2 + 1))] [] hi hr (zQ1i hr P)))) ∧ (x1 ≠ 0 → (W1i mX2_reachesLaterEndpoints [.inr (some (4, 0)), .inr (some (30, j1)), .inl a2] hi hr (fun (x2 : Int) (hi3 : zI) => (x2 ≠ 0 → ((zInR (a2 + 1)) ∧ (WP mX2_faultOfWays 2 [some (.inr (some (4, 0))), some (.inr (some (30, j1))), some (.inl (a2 + 1))] [] hi3 hr (zQ1i hr P)))) ∧ (x2 = 0 → (P 5 (zup hi3 4 0 2 a2)))))))))) :
    WP mX2_faultOfWays 2 [some (.inr (some (4, 0))), some (.inr (some (30, j1))), some (.inl a2)] [] hi hr (zQ1i hr P) :=
  WP.iload_n (pc2 := 3) (i := 2) rfl (by decide +kernel) rfl <|
  WP.aload_n (pc2 := 4) (i := 1) rfl (by decide +kernel) rfl <|
  WP.getI (pc2 := 7) rfl (by decide +kernel) zc_10 zSh_30 (by decide) rfl lf_X2_80 rfl rfl <|
  WP.icmp_ge (pc2 := 10) (off := 33) (tgt := 40) rfl (by decide +kernel) (by decide) (fun h12 => have f13 := F.1 h12
  WP.iconst (pc2 := 41) (x := 0) rfl (by decide +kernel) (by decide) <|
  WP.iret (by decide +kernel) rfl (fun hx => ⟨_, rfl, hx, rfl, f13⟩)) (fun h12 => have f14 := F.2 h12
  WP.aload_n (pc2 := 11) (i := 1) rfl (by decide +kernel) rfl <|
  WP.iload_n (pc2 := 12) (i := 2) rfl (by decide +kernel) rfl <|
  WP.callV (y := mX2_faultOfWays) (index := 83) (pc2 := 15) (y' := mX10_isEndpoint) (vs := [.inl a2]) rfl (by decide +kernel) okX10_isEndpoint ⟨by decide, by decide⟩ ⟨lm_X2_83, ivX10_isEndpoint⟩ zSh_30 zc_10 (Nat.le_of_ble_eq_true rfl) ⟨rfl, rfl⟩ rfl (WP.c0i f14 (fun x1 _ f11 =>
  WP.if_eq (pc2 := 18) (off := 19) (tgt := 34) rfl (by decide +kernel) (by decide) (fun h8 => have f9 := f11.1 h8
  WP.iinc (pc2 := 37) (i := 2) (d := 1) rfl (by decide +kernel) rfl f9.1 <|
  WP.goto (off := -35) (tgt := 2) (by decide +kernel) (by decide) <|
  f9.2) (fun h8 => have f10 := f11.2 h8
  WP.aload_n (pc2 := 19) (i := 0) rfl (by decide +kernel) rfl <|
  WP.aload_n (pc2 := 20) (i := 1) rfl (by decide +kernel) rfl <|
  WP.iload_n (pc2 := 21) (i := 2) rfl (by decide +kernel) rfl <|
  WP.callV (y := mX2_faultOfWays) (index := 87) (pc2 := 24) (y' := mX2_reachesLaterEndpoints) (vs := [.inr (some (30, j1)), .inl a2]) rfl (by decide +kernel) okX2_reachesLaterEndpoints ⟨by decide, by decide⟩ ⟨lm_X2_87, ivX2_reachesLaterEndpoints⟩ zSh_4 zc_2 (Nat.le_of_ble_eq_true rfl) ⟨rfl, rfl⟩ rfl (WP.c1i f10 (fun x2 hi3 _ f7 =>
  WP.if_ne (pc2 := 27) (off := 10) (tgt := 34) rfl (by decide +kernel) (by decide) (fun h4 => have f5 := f7.1 h4
  WP.iinc (pc2 := 37) (i := 2) (d := 1) rfl (by decide +kernel) rfl f5.1 <|
  WP.goto (off := -35) (tgt := 2) (by decide +kernel) (by decide) <|
  f5.2) (fun h4 => have f6 := f7.2 h4
  WP.aload_n (pc2 := 28) (i := 0) rfl (by decide +kernel) rfl <|
  WP.iload_n (pc2 := 29) (i := 2) rfl (by decide +kernel) rfl <|
  WP.putI (pc2 := 32) rfl (by decide +kernel) zc_2 zSh_4 (by decide) rfl lf_X2_18 rfl (z_int _) rfl <|
  WP.iconst (pc2 := 33) (x := 5) rfl (by decide +kernel) (by decide) <|
  WP.iret (by decide +kernel) rfl (fun hx => ⟨_, rfl, hx, rfl, f6⟩))))))))
set_option maxRecDepth 100000 in
set_option maxHeartbeats 4000000 in
theorem GX2_reachesLaterEndpoints {hi : zI} {hr : zR} {P : Int → zI → Prop} (j1 : Int) (l2 : Int) (hj1 : 0 ≤ j1 ∧ j1 < 2)
    (F : W1v mX2_flood [.inr (some (4, 0)), .inr (some (30, j1)), .inl l2] hi hr (fun (hi1 : zI) => WP mX2_reachesLaterEndpoints 8 [some (.inr (some (4, 0))), some (.inr (some (30, j1))), some (.inl l2), some (.inl l2)] [] hi1 hr (zQ1i hr P))) :
    W1i mX2_reachesLaterEndpoints [.inr (some (4, 0)), .inr (some (30, j1)), .inl l2] hi hr P :=
  WPm.of rfl (show WP mX2_reachesLaterEndpoints 0 [some (.inr (some (4, 0))), some (.inr (some (30, j1))), some (.inl l2), none] [] hi hr (zQ1i hr P) from
  WP.aload_n (pc2 := 1) (i := 0) rfl (by decide +kernel) rfl <|
  WP.aload_n (pc2 := 2) (i := 1) rfl (by decide +kernel) rfl <|
  WP.iload_n (pc2 := 3) (i := 2) rfl (by decide +kernel) rfl <|
  WP.callV (y := mX2_reachesLaterEndpoints) (index := 91) (pc2 := 6) (y' := mX2_flood) (vs := [.inr (some (30, j1)), .inl l2]) rfl (by decide +kernel) okX2_flood ⟨by decide, by decide⟩ ⟨lm_X2_91, ivX2_flood⟩ zSh_4 zc_2 (Nat.le_of_ble_eq_true rfl) ⟨rfl, rfl⟩ rfl (WP.c1v F (fun hi1 f2 =>
  WP.iload_n (pc2 := 7) (i := 2) rfl (by decide +kernel) rfl <|
  WP.istore_n (pc2 := 8) (i := 3) rfl (by decide +kernel) (by decide) <|
  f2)))

set_option maxRecDepth 100000 in
set_option maxHeartbeats 4000000 in
theorem GX2_reachesLaterEndpoints_8 {hi : zI} {hr : zR} {P : Int → zI → Prop} (hR : RSc hr) (j1 : Int) (l2 : Int) (a3 : Int) (hj1 : 0 ≤ j1 ∧ j1 < 2)
    (F : (hi 30 j1 5 ≤ a3 → P 1 hi) ∧ (a3 < hi 30 j1 5 → ((256 ≤ a3 → P 1 hi) ∧ (a3 < 256 → (W0i mX10_isEndpoint [.inr (some (30, j1)), .inl a3] hi hr (fun (x3 : Int) => (x3 = 0 → ((zInR (a3 + 1)) ∧ (WP mX2_reachesLaterEndpoints 8 [some (.inr (some (4, 0))), some (.inr (some (30, j1))), some (.inl l2), some (.inl (a3 + 1))] [] hi hr (zQ1i hr P)))) ∧ (x3 ≠ 0 → ((0 ≤ a3 ∧ a3 < 256) ∧ ((hi 6 0 a3 ≠ 0 → ((zInR (a3 + 1)) ∧ (WP mX2_reachesLaterEndpoints 8 [some (.inr (some (4, 0))), some (.inr (some (30, j1))), some (.inl l2), some (.inl (a3 + 1))] [] hi hr (zQ1i hr P)))) ∧ (hi 6 0 a3 = 0 → P 0 hi)))))))))) :
    WP mX2_reachesLaterEndpoints 8 [some (.inr (some (4, 0))), some (.inr (some (30, j1))), some (.inl l2), some (.inl a3)] [] hi hr (zQ1i hr P) :=
  WP.iload_n (pc2 := 9) (i := 3) rfl (by decide +kernel) rfl <|
  WP.aload_n (pc2 := 10) (i := 1) rfl (by decide +kernel) rfl <|
  WP.getI (pc2 := 13) rfl (by decide +kernel) zc_10 zSh_30 (by decide) rfl lf_X2_80 rfl rfl <|
  WP.icmp_ge (pc2 := 16) (off := 35) (tgt := 48) rfl (by decide +kernel) (by decide) (fun h14 => have f15 := F.1 h14
  WP.iconst (pc2 := 49) (x := 1) rfl (by decide +kernel) (by decide) <|
  WP.zret (by decide +kernel) rfl (by decide) (fun hx => ⟨_, rfl, hx, rfl, f15⟩)) (fun h14 => have f16 := F.2 h14
  WP.iload_n (pc2 := 17) (i := 3) rfl (by decide +kernel) rfl <|
  WP.sipush (pc2 := 20) (x := 256) rfl (by decide +kernel) ⟨by decide +kernel, by decide⟩ <|
  WP.icmp_ge (pc2 := 23) (off := 28) (tgt := 48) rfl (by decide +kernel) (by decide) (fun h11 => have f12 := f16.1 h11
  WP.iconst (pc2 := 49) (x := 1) rfl (by decide +kernel) (by decide) <|
  WP.zret (by decide +kernel) rfl (by decide) (fun hx => ⟨_, rfl, hx, rfl, f12⟩)) (fun h11 => have f13 := f16.2 h11
  WP.aload_n (pc2 := 24) (i := 1) rfl (by decide +kernel) rfl <|
  WP.iload_n (pc2 := 25) (i := 3) rfl (by decide +kernel) rfl <|
  WP.callV (y := mX2_reachesLaterEndpoints) (index := 83) (pc2 := 28) (y' := mX10_isEndpoint) (vs := [.inl a3]) rfl (by decide +kernel) okX10_isEndpoint ⟨by decide, by decide⟩ ⟨lm_X2_83, ivX10_isEndpoint⟩ zSh_30 zc_10 (Nat.le_of_ble_eq_true rfl) ⟨rfl, rfl⟩ rfl (WP.c0i f13 (fun x3 _ f10 =>
  WP.if_eq (pc2 := 31) (off := 14) (tgt := 42) rfl (by decide +kernel) (by decide) (fun h7 => have f8 := f10.1 h7
  WP.iinc (pc2 := 45) (i := 3) (d := 1) rfl (by decide +kernel) rfl f8.1 <|
  WP.goto (off := -37) (tgt := 8) (by decide +kernel) (by decide) <|
  f8.2) (fun h7 => have f9 := f10.2 h7
  WP.aload_n (pc2 := 32) (i := 0) rfl (by decide +kernel) rfl <|
  WP.getR (pc2 := 35) rfl (by decide +kernel) zc_2 zSh_4 (by decide) rfl lf_X2_15 rfl (rs_4_1 hR) <|
  WP.iload_n (pc2 := 36) (i := 3) rfl (by decide +kernel) rfl <|
  WP.iaload (pc2 := 37) rfl (by decide +kernel) zSh_6 rfl f9.1 rfl <|
  WP.if_ne (pc2 := 40) (off := 5) (tgt := 42) rfl (by decide +kernel) (by decide) (fun h4 => have f5 := f9.2.1 h4
  WP.iinc (pc2 := 45) (i := 3) (d := 1) rfl (by decide +kernel) rfl f5.1 <|
  WP.goto (off := -37) (tgt := 8) (by decide +kernel) (by decide) <|
  f5.2) (fun h4 => have f6 := f9.2.2 h4
  WP.iconst (pc2 := 41) (x := 0) rfl (by decide +kernel) (by decide) <|
  WP.zret (by decide +kernel) rfl (by decide) (fun hx => ⟨_, rfl, hx, rfl, f6⟩)))))))
set_option maxRecDepth 100000 in
set_option maxHeartbeats 4000000 in
theorem GX2_flood {hi : zI} {hr : zR} {P : zI → Prop} (hR : RSc hr) (j1 : Int) (l2 : Int) (hj1 : 0 ≤ j1 ∧ j1 < 2)
    (F : W1v mJ7_fill_53178 [.inr (some (6, 0)), .inl 0] hi hr (fun (hi1 : zI) => W1i mX2_visit [.inr (some (4, 0)), .inl l2, .inl 0] hi1 hr (fun (x2 : Int) (hi3 : zI) => WP mX2_flood 18 [some (.inr (some (4, 0))), some (.inr (some (30, j1))), some (.inl l2), some (.inl x2), some (.inl 0), none, none] [] hi3 hr (zQ1v hr P)))) :
    W1v mX2_flood [.inr (some (4, 0)), .inr (some (30, j1)), .inl l2] hi hr P :=
  WPm.of rfl (show WP mX2_flood 0 [some (.inr (some (4, 0))), some (.inr (some (30, j1))), some (.inl l2), none, none, none, none] [] hi hr (zQ1v hr P) from
  WP.aload_n (pc2 := 1) (i := 0) rfl (by decide +kernel) rfl <|
  WP.getR (pc2 := 4) rfl (by decide +kernel) zc_2 zSh_4 (by decide) rfl lf_X2_15 rfl (rs_4_1 hR) <|
  WP.iconst (pc2 := 5) (x := 0) rfl (by decide +kernel) (by decide) <|
  WP.callS (y := mX2_flood) (index := 95) (pc2 := 8) (y' := mJ7_fill_53178) (vs := [.inr (some (6, 0)), .inl 0]) rfl (by decide +kernel) okJ7_fill_53178 ⟨by decide, by decide⟩ ⟨lm_X2_95, ivJ7_fill_53178⟩ (Nat.le_of_ble_eq_true rfl) ⟨rfl, rfl⟩ rfl (WP.c1v F (fun hi1 f5 =>
  WP.aload_n (pc2 := 9) (i := 0) rfl (by decide +kernel) rfl <|
  WP.iload_n (pc2 := 10) (i := 2) rfl (by decide +kernel) rfl <|
  WP.iconst (pc2 := 11) (x := 0) rfl (by decide +kernel) (by decide) <|
  WP.callV (y := mX2_flood) (index := 101) (pc2 := 14) (y' := mX2_visit) (vs := [.inl l2, .inl 0]) rfl (by decide +kernel) okX2_visit ⟨by decide, by decide⟩ ⟨lm_X2_101, ivX2_visit⟩ zSh_4 zc_2 (Nat.le_of_ble_eq_true rfl) ⟨rfl, rfl⟩ rfl (WP.c1i f5 (fun x2 hi3 _ f4 =>
  WP.istore_n (pc2 := 15) (i := 3) rfl (by decide +kernel) (by decide) <|
  WP.iconst (pc2 := 16) (x := 0) rfl (by decide +kernel) (by decide) <|
  WP.istore (pc2 := 18) (i := 4) rfl (by decide +kernel) (by decide) <|
  f4)))))

set_option maxRecDepth 100000 in
set_option maxHeartbeats 4000000 in
theorem GX2_flood_62 {hi : zI} {hr : zR} {P : zI → Prop} (j1 : Int) (l2 : Int) (a3 : Int) (a4 : Int) (a5 : Int) (a6 : Int) (hj1 : 0 ≤ j1 ∧ j1 < 2)
    (F : (4 ≤ a6 → ((zInR (a4 + 1)) ∧ (WP mX2_flood 18 [some (.inr (some (4, 0))), some (.inr (some (30, j1))), some (.inl l2), some (.inl a3), some (.inl (a4 + 1)), some (.inl a5), some (.inl a6)] [] hi hr (zQ1v hr P)))) ∧ (a6 < 4 → (W0i mX10_neighbour [.inr (some (30, j1)), .inl a5, .inl a6] hi hr (fun (x34 : Int) => W1i mX2_visit [.inr (some (4, 0)), .inl x34, .inl a3] hi hr (fun (x35 : Int) (hi36 : zI) => (zInR (a6 + 1)) ∧ (WP mX2_flood 62 [some (.inr (some (4, 0))), some (.inr (some (30, j1))), some (.inl l2), some (.inl x35), some (.inl a4), some (.inl a5), some (.inl (a6 + 1))] [] hi36 hr (zQ1v hr P))))))) :
    WP mX2_flood 62 [some (.inr (some (4, 0))), some (.inr (some (30, j1))), some (.inl l2), some (.inl a3), some (.inl a4), some (.inl a5), some (.inl a6)] [] hi hr (zQ1v hr P) :=
  WP.iload (pc2 := 64) (i := 6) rfl (by decide +kernel) rfl <|
  WP.iconst (pc2 := 65) (x := 4) rfl (by decide +kernel) (by decide) <|
  WP.icmp_ge (pc2 := 68) (off := 23) (tgt := 88) rfl (by decide +kernel) (by decide) (fun h39 => have f40 := F.1 h39
  WP.iinc (pc2 := 91) (i := 4) (d := 1) rfl (by decide +kernel) rfl f40.1 <|
  WP.goto (off := -73) (tgt := 18) (by decide +kernel) (by decide) <|
  f40.2) (fun h39 => have f41 := F.2 h39
  WP.aload_n (pc2 := 69) (i := 0) rfl (by decide +kernel) rfl <|
  WP.aload_n (pc2 := 70) (i := 1) rfl (by decide +kernel) rfl <|
  WP.iload (pc2 := 72) (i := 5) rfl (by decide +kernel) rfl <|
  WP.iload (pc2 := 74) (i := 6) rfl (by decide +kernel) rfl <|
  WP.callV (y := mX2_flood) (index := 105) (pc2 := 77) (y' := mX10_neighbour) (vs := [.inl a5, .inl a6]) rfl (by decide +kernel) okX10_neighbour ⟨by decide, by decide⟩ ⟨lm_X2_105, ivX10_neighbour⟩ zSh_30 zc_10 (Nat.le_of_ble_eq_true rfl) ⟨rfl, rfl⟩ rfl (WP.c0i f41 (fun x34 _ f38 =>
  WP.iload_n (pc2 := 78) (i := 3) rfl (by decide +kernel) rfl <|
  WP.callV (y := mX2_flood) (index := 101) (pc2 := 81) (y' := mX2_visit) (vs := [.inl x34, .inl a3]) rfl (by decide +kernel) okX2_visit ⟨by decide, by decide⟩ ⟨lm_X2_101, ivX2_visit⟩ zSh_4 zc_2 (Nat.le_of_ble_eq_true rfl) ⟨rfl, rfl⟩ rfl (WP.c1i f38 (fun x35 hi36 _ f37 =>
  WP.istore_n (pc2 := 82) (i := 3) rfl (by decide +kernel) (by decide) <|
  WP.iinc (pc2 := 85) (i := 6) (d := 1) rfl (by decide +kernel) rfl f37.1 <|
  WP.goto (off := -23) (tgt := 62) (by decide +kernel) (by decide) <|
  f37.2)))))

set_option maxRecDepth 100000 in
set_option maxHeartbeats 4000000 in
theorem GX2_flood_18 {hi : zI} {hr : zR} {P : zI → Prop} (hR : RSc hr) (j1 : Int) (l2 : Int) (a3 : Int) (a4 : Int) (u5 : Option zV) (u6 : Option zV) (hj1 : 0 ≤ j1 ∧ j1 < 2)
    (F : (a3 ≤ a4 → P hi) ∧ (a4 < a3 → ((256 ≤ a4 → P hi) ∧ (a4 < 256 → ((0 ≤ a4 ∧ a4 < 256) ∧ ((hi 5 0 a4 = l2 → (WP mX2_flood 62 [some (.inr (some (4, 0))), some (.inr (some (30, j1))), some (.inl l2), some (.inl a3), some (.inl a4), some (.inl (hi 5 0 a4)), some (.inl 0)] [] hi hr (zQ1v hr P))) ∧ (hi 5 0 a4 ≠ l2 → (W0i mX10_isEndpoint [.inr (some (30, j1)), .inl (hi 5 0 a4)] hi hr (fun (x42 : Int) => (x42 = 0 → (WP mX2_flood 62 [some (.inr (some (4, 0))), some (.inr (some (30, j1))), some (.inl l2), some (.inl a3), some (.inl a4), some (.inl (hi 5 0 a4)), some (.inl 0)] [] hi hr (zQ1v hr P))) ∧ (x42 ≠ 0 → ((zInR (a4 + 1)) ∧ (WP mX2_flood 18 [some (.inr (some (4, 0))), some (.inr (some (30, j1))), some (.inl l2), some (.inl a3), some (.inl (a4 + 1)), some (.inl (hi 5 0 a4)), u6] [] hi hr (zQ1v hr P))))))))))))) :
    WP mX2_flood 18 [some (.inr (some (4, 0))), some (.inr (some (30, j1))), some (.inl l2), some (.inl a3), some (.inl a4), u5, u6] [] hi hr (zQ1v hr P) :=
  WP.iload (pc2 := 20) (i := 4) rfl (by decide +kernel) rfl <|
  WP.iload_n (pc2 := 21) (i := 3) rfl (by decide +kernel) rfl <|
  WP.icmp_ge (pc2 := 24) (off := 73) (tgt := 94) rfl (by decide +kernel) (by decide) (fun h53 => have f54 := F.1 h53
  WP.vret (by decide +kernel) rfl ⟨rfl, rfl, f54⟩) (fun h53 => have f55 := F.2 h53
  WP.iload (pc2 := 26) (i := 4) rfl (by decide +kernel) rfl <|
  WP.sipush (pc2 := 29) (x := 256) rfl (by decide +kernel) ⟨by decide +kernel, by decide⟩ <|
  WP.icmp_ge (pc2 := 32) (off := 65) (tgt := 94) rfl (by decide +kernel) (by decide) (fun h50 => have f51 := f55.1 h50
  WP.vret (by decide +kernel) rfl ⟨rfl, rfl, f51⟩) (fun h50 => have f52 := f55.2 h50
  WP.aload_n (pc2 := 33) (i := 0) rfl (by decide +kernel) rfl <|
  WP.getR (pc2 := 36) rfl (by decide +kernel) zc_2 zSh_4 (by decide) rfl lf_X2_9 rfl (rs_4_0 hR) <|
  WP.iload (pc2 := 38) (i := 4) rfl (by decide +kernel) rfl <|
  WP.iaload (pc2 := 39) rfl (by decide +kernel) zSh_5 rfl f52.1 rfl <|
  WP.istore (pc2 := 41) (i := 5) rfl (by decide +kernel) (by decide) <|
  WP.iload (pc2 := 43) (i := 5) rfl (by decide +kernel) rfl <|
  WP.iload_n (pc2 := 44) (i := 2) rfl (by decide +kernel) rfl <|
  WP.icmp_eq (pc2 := 47) (off := 15) (tgt := 59) rfl (by decide +kernel) (by decide) (fun h47 => have f48 := f52.2.1 h47
  WP.iconst (pc2 := 60) (x := 0) rfl (by decide +kernel) (by decide) <|
  WP.istore (pc2 := 62) (i := 6) rfl (by decide +kernel) (by decide) <|
  f48) (fun h47 => have f49 := f52.2.2 h47
  WP.aload_n (pc2 := 48) (i := 1) rfl (by decide +kernel) rfl <|
  WP.iload (pc2 := 50) (i := 5) rfl (by decide +kernel) rfl <|
  WP.callV (y := mX2_flood) (index := 83) (pc2 := 53) (y' := mX10_isEndpoint) (vs := [.inl (hi 5 0 a4)]) rfl (by decide +kernel) okX10_isEndpoint ⟨by decide, by decide⟩ ⟨lm_X2_83, ivX10_isEndpoint⟩ zSh_30 zc_10 (Nat.le_of_ble_eq_true rfl) ⟨rfl, rfl⟩ rfl (WP.c0i f49 (fun x42 _ f46 =>
  WP.if_eq (pc2 := 56) (off := 6) (tgt := 59) rfl (by decide +kernel) (by decide) (fun h43 => have f44 := f46.1 h43
  WP.iconst (pc2 := 60) (x := 0) rfl (by decide +kernel) (by decide) <|
  WP.istore (pc2 := 62) (i := 6) rfl (by decide +kernel) (by decide) <|
  f44) (fun h43 => have f45 := f46.2 h43
  WP.goto (off := 32) (tgt := 88) (by decide +kernel) (by decide) <|
  WP.iinc (pc2 := 91) (i := 4) (d := 1) rfl (by decide +kernel) rfl f45.1 <|
  WP.goto (off := -73) (tgt := 18) (by decide +kernel) (by decide) <|
  f45.2))))))
set_option maxRecDepth 100000 in
set_option maxHeartbeats 4000000 in
theorem GX2_visit {hi : zI} {hr : zR} {P : Int → zI → Prop} (hR : RSc hr) (l1 : Int) (l2 : Int) 
    (F : (l1 < 0 → P l2 hi) ∧ (0 ≤ l1 → ((256 ≤ l1 → P l2 hi) ∧ (l1 < 256 → ((0 ≤ l1 ∧ l1 < 256) ∧ ((hi 6 0 l1 ≠ 0 → P l2 hi) ∧ (hi 6 0 l1 = 0 → ((l2 < 0 → P l2 hi) ∧ (0 ≤ l2 → ((l2 < 256 → ((0 ≤ l1 ∧ l1 < 256) ∧ ((0 ≤ l2 ∧ l2 < 256) ∧ ((zInR (l2 + 1)) ∧ (P (l2 + 1) (zup (zup hi 6 0 l1 1) 5 0 l2 l1)))))) ∧ (256 ≤ l2 → P l2 hi))))))))))) :
    W1i mX2_visit [.inr (some (4, 0)), .inl l1, .inl l2] hi hr P :=
  WPm.of rfl (show WP mX2_visit 0 [some (.inr (some (4, 0))), some (.inl l1), some (.inl l2)] [] hi hr (zQ1i hr P) from
  WP.iload_n (pc2 := 1) (i := 1) rfl (by decide +kernel) rfl <|
  WP.if_lt (pc2 := 4) (off := 30) (tgt := 31) rfl (by decide +kernel) (by decide) (fun h13 => have f14 := F.1 h13
  WP.iload_n (pc2 := 32) (i := 2) rfl (by decide +kernel) rfl <|
  WP.iret (by decide +kernel) rfl (fun hx => ⟨_, rfl, hx, rfl, f14⟩)) (fun h13 => have f15 := F.2 h13
  WP.iload_n (pc2 := 5) (i := 1) rfl (by decide +kernel) rfl <|
  WP.sipush (pc2 := 8) (x := 256) rfl (by decide +kernel) ⟨by decide +kernel, by decide⟩ <|
  WP.icmp_ge (pc2 := 11) (off := 23) (tgt := 31) rfl (by decide +kernel) (by decide) (fun h10 => have f11 := f15.1 h10
  WP.iload_n (pc2 := 32) (i := 2) rfl (by decide +kernel) rfl <|
  WP.iret (by decide +kernel) rfl (fun hx => ⟨_, rfl, hx, rfl, f11⟩)) (fun h10 => have f12 := f15.2 h10
  WP.aload_n (pc2 := 12) (i := 0) rfl (by decide +kernel) rfl <|
  WP.getR (pc2 := 15) rfl (by decide +kernel) zc_2 zSh_4 (by decide) rfl lf_X2_15 rfl (rs_4_1 hR) <|
  WP.iload_n (pc2 := 16) (i := 1) rfl (by decide +kernel) rfl <|
  WP.iaload (pc2 := 17) rfl (by decide +kernel) zSh_6 rfl f12.1 rfl <|
  WP.if_ne (pc2 := 20) (off := 14) (tgt := 31) rfl (by decide +kernel) (by decide) (fun h7 => have f8 := f12.2.1 h7
  WP.iload_n (pc2 := 32) (i := 2) rfl (by decide +kernel) rfl <|
  WP.iret (by decide +kernel) rfl (fun hx => ⟨_, rfl, hx, rfl, f8⟩)) (fun h7 => have f9 := f12.2.2 h7
  WP.iload_n (pc2 := 21) (i := 2) rfl (by decide +kernel) rfl <|
  WP.if_lt (pc2 := 24) (off := 10) (tgt := 31) rfl (by decide +kernel) (by decide) (fun h4 => have f5 := f9.1 h4
  WP.iload_n (pc2 := 32) (i := 2) rfl (by decide +kernel) rfl <|
  WP.iret (by decide +kernel) rfl (fun hx => ⟨_, rfl, hx, rfl, f5⟩)) (fun h4 => have f6 := f9.2 h4
  WP.iload_n (pc2 := 25) (i := 2) rfl (by decide +kernel) rfl <|
  WP.sipush (pc2 := 28) (x := 256) rfl (by decide +kernel) ⟨by decide +kernel, by decide⟩ <|
  WP.icmp_lt (pc2 := 31) (off := 5) (tgt := 33) rfl (by decide +kernel) (by decide) (fun h1 => have f2 := f6.1 h1
  WP.aload_n (pc2 := 34) (i := 0) rfl (by decide +kernel) rfl <|
  WP.getR (pc2 := 37) rfl (by decide +kernel) zc_2 zSh_4 (by decide) rfl lf_X2_15 rfl (rs_4_1 hR) <|
  WP.iload_n (pc2 := 38) (i := 1) rfl (by decide +kernel) rfl <|
  WP.iconst (pc2 := 39) (x := 1) rfl (by decide +kernel) (by decide) <|
  WP.iastore (pc2 := 40) rfl (by decide +kernel) zSh_6 rfl f2.1 <|
  WP.aload_n (pc2 := 41) (i := 0) rfl (by decide +kernel) rfl <|
  WP.getR (pc2 := 44) rfl (by decide +kernel) zc_2 zSh_4 (by decide) rfl lf_X2_9 rfl (rs_4_0 hR) <|
  WP.iload_n (pc2 := 45) (i := 2) rfl (by decide +kernel) rfl <|
  WP.iload_n (pc2 := 46) (i := 1) rfl (by decide +kernel) rfl <|
  WP.iastore (pc2 := 47) rfl (by decide +kernel) zSh_5 rfl f2.2.1 <|
  WP.iload_n (pc2 := 48) (i := 2) rfl (by decide +kernel) rfl <|
  WP.iconst (pc2 := 49) (x := 1) rfl (by decide +kernel) (by decide) <|
  WP.iadd (pc2 := 50) rfl (by decide +kernel) f2.2.2.1 <|
  WP.iret (by decide +kernel) rfl (fun hx => ⟨_, rfl, hx, rfl, f2.2.2.2⟩)) (fun h1 => have f3 := f6.2 h1
  WP.iload_n (pc2 := 32) (i := 2) rfl (by decide +kernel) rfl <|
  WP.iret (by decide +kernel) rfl (fun hx => ⟨_, rfl, hx, rfl, f3⟩)))))))
set_option maxRecDepth 100000 in
set_option maxHeartbeats 4000000 in
theorem GX10_clear {hi : zI} {hr : zR} {P : zI → Prop} (j : Int) (hj : 0 ≤ j ∧ j < 2)
    (F : P (zup (zup (zup (zup hi 30 j 5 0) 30 j 6 0) 30 j 7 0) 30 j 8 0)) :
    W1v mX10_clear [.inr (some (30, j))] hi hr P :=
  WPm.of rfl (show WP mX10_clear 0 [some (.inr (some (30, j)))] [] hi hr (zQ1v hr P) from
  WP.aload_n (pc2 := 1) (i := 0) rfl (by decide +kernel) rfl <|
  WP.iconst (pc2 := 2) (x := 0) rfl (by decide +kernel) (by decide) <|
  WP.putI (pc2 := 5) rfl (by decide +kernel) zc_10 zSh_30 (by decide) rfl lf_X10_27 rfl (z_int _) rfl <|
  WP.aload_n (pc2 := 6) (i := 0) rfl (by decide +kernel) rfl <|
  WP.iconst (pc2 := 7) (x := 0) rfl (by decide +kernel) (by decide) <|
  WP.putI (pc2 := 10) rfl (by decide +kernel) zc_10 zSh_30 (by decide) rfl lf_X10_31 rfl (z_int _) rfl <|
  WP.aload_n (pc2 := 11) (i := 0) rfl (by decide +kernel) rfl <|
  WP.iconst (pc2 := 12) (x := 0) rfl (by decide +kernel) (by decide) <|
  WP.putI (pc2 := 15) rfl (by decide +kernel) zc_10 zSh_30 (by decide) rfl lf_X10_34 rfl (z_int _) rfl <|
  WP.aload_n (pc2 := 16) (i := 0) rfl (by decide +kernel) rfl <|
  WP.iconst (pc2 := 17) (x := 0) rfl (by decide +kernel) (by decide) <|
  WP.putI (pc2 := 20) rfl (by decide +kernel) zc_10 zSh_30 (by decide) rfl lf_X10_37 rfl (z_int _) rfl <|
  WP.vret (by decide +kernel) rfl ⟨rfl, rfl, F⟩)
set_option maxRecDepth 100000 in
set_option maxHeartbeats 4000000 in
theorem GX10_addCell {hi : zI} {hr : zR} {P : zI → Prop} (hR : RSc hr) (j : Int) (l1 : Int) (hj : 0 ≤ j ∧ j < 2)
    (F : (hi 30 j 5 < 256 → ((0 ≤ hi 30 j 5 ∧ hi 30 j 5 < 256) ∧ ((0 ≤ hi 30 j 5 ∧ hi 30 j 5 < 256) ∧ ((l1 ≠ 2 → ((l1 ≠ 3 → ((zInR ((hi 30 j 5) + 1)) ∧ (P (zup (zup (zup hi 31 j (hi 30 j 5) l1) 32 j (hi 30 j 5) (-1)) 30 j 5 ((hi 30 j 5) + 1))))) ∧ (l1 = 3 → (W1v mX10_addParking [.inr (some (30, j))] (zup (zup hi 31 j (hi 30 j 5) l1) 32 j (hi 30 j 5) (-1)) hr (fun (hi1 : zI) => (zInR ((hi1 30 j 5) + 1)) ∧ (P (zup hi1 30 j 5 ((hi1 30 j 5) + 1)))))))) ∧ (l1 = 2 → (W1v mX10_addStation [.inr (some (30, j))] (zup (zup hi 31 j (hi 30 j 5) l1) 32 j (hi 30 j 5) (-1)) hr (fun (hi6 : zI) => (zInR ((hi6 30 j 5) + 1)) ∧ (P (zup hi6 30 j 5 ((hi6 30 j 5) + 1)))))))))) ∧ (256 ≤ hi 30 j 5 → P hi)) :
    W1v mX10_addCell [.inr (some (30, j)), .inl l1] hi hr P :=
  WPm.of rfl (show WP mX10_addCell 0 [some (.inr (some (30, j))), some (.inl l1)] [] hi hr (zQ1v hr P) from
  WP.aload_n (pc2 := 1) (i := 0) rfl (by decide +kernel) rfl <|
  WP.getI (pc2 := 4) rfl (by decide +kernel) zc_10 zSh_30 (by decide) rfl lf_X10_27 rfl rfl <|
  WP.sipush (pc2 := 7) (x := 256) rfl (by decide +kernel) ⟨by decide +kernel, by decide⟩ <|
  WP.icmp_lt (pc2 := 10) (off := 4) (tgt := 11) rfl (by decide +kernel) (by decide) (fun h11 => have f12 := F.1 h11
  WP.aload_n (pc2 := 12) (i := 0) rfl (by decide +kernel) rfl <|
  WP.getR (pc2 := 15) rfl (by decide +kernel) zc_10 zSh_30 (by decide) rfl lf_X10_9 rfl (rs_30_0 hR j hj) <|
  WP.aload_n (pc2 := 16) (i := 0) rfl (by decide +kernel) rfl <|
  WP.getI (pc2 := 19) rfl (by decide +kernel) zc_10 zSh_30 (by decide) rfl lf_X10_27 rfl rfl <|
  WP.iload_n (pc2 := 20) (i := 1) rfl (by decide +kernel) rfl <|
  WP.iastore (pc2 := 21) rfl (by decide +kernel) zSh_31 rfl f12.1 <|
  WP.aload_n (pc2 := 22) (i := 0) rfl (by decide +kernel) rfl <|
  WP.getR (pc2 := 25) rfl (by decide +kernel) zc_10 zSh_30 (by decide) rfl lf_X10_15 rfl (rs_30_1 hR j hj) <|
  WP.aload_n (pc2 := 26) (i := 0) rfl (by decide +kernel) rfl <|
  WP.getI (pc2 := 29) rfl (by decide +kernel) zc_10 zSh_30 (by decide) rfl lf_X10_27 rfl (zup_k _ _ _ _ _ _ (by decide)) <|
  WP.iconst (pc2 := 30) (x := -1) rfl (by decide +kernel) (by decide) <|
  WP.iastore (pc2 := 31) rfl (by decide +kernel) zSh_32 rfl f12.2.1 <|
  WP.iload_n (pc2 := 32) (i := 1) rfl (by decide +kernel) rfl <|
  WP.iconst (pc2 := 33) (x := 2) rfl (by decide +kernel) (by decide) <|
  WP.icmp_ne (pc2 := 36) (off := 10) (tgt := 43) rfl (by decide +kernel) (by decide) (fun h8 => have f9 := f12.2.2.1 h8
  WP.iload_n (pc2 := 44) (i := 1) rfl (by decide +kernel) rfl <|
  WP.iconst (pc2 := 45) (x := 3) rfl (by decide +kernel) (by decide) <|
  WP.icmp_ne (pc2 := 48) (off := 7) (tgt := 52) rfl (by decide +kernel) (by decide) (fun h3 => have f4 := f9.1 h3
  WP.aload_n (pc2 := 53) (i := 0) rfl (by decide +kernel) rfl <|
  WP.dup (pc2 := 54) rfl (by decide +kernel) <|
  WP.getI (pc2 := 57) rfl (by decide +kernel) zc_10 zSh_30 (by decide) rfl lf_X10_27 rfl ((zup_k _ _ _ _ _ _ (by decide)).trans (zup_k _ _ _ _ _ _ (by decide))) <|
  WP.iconst (pc2 := 58) (x := 1) rfl (by decide +kernel) (by decide) <|
  WP.iadd (pc2 := 59) rfl (by decide +kernel) f4.1 <|
  WP.putI (pc2 := 62) rfl (by decide +kernel) zc_10 zSh_30 (by decide) rfl lf_X10_27 rfl (z_int _) rfl <|
  WP.vret (by decide +kernel) rfl ⟨rfl, rfl, f4.2⟩) (fun h3 => have f5 := f9.2 h3
  WP.aload_n (pc2 := 49) (i := 0) rfl (by decide +kernel) rfl <|
  WP.callV (y := mX10_addCell) (index := 43) (pc2 := 52) (y' := mX10_addParking) (vs := []) rfl (by decide +kernel) okX10_addParking ⟨by decide, by decide⟩ ⟨lm_X10_43, ivX10_addParking⟩ zSh_30 zc_10 (Nat.le_of_ble_eq_true rfl) ⟨rfl, rfl⟩ rfl (WP.c1v f5 (fun hi1 f2 =>
  WP.aload_n (pc2 := 53) (i := 0) rfl (by decide +kernel) rfl <|
  WP.dup (pc2 := 54) rfl (by decide +kernel) <|
  WP.getI (pc2 := 57) rfl (by decide +kernel) zc_10 zSh_30 (by decide) rfl lf_X10_27 rfl rfl <|
  WP.iconst (pc2 := 58) (x := 1) rfl (by decide +kernel) (by decide) <|
  WP.iadd (pc2 := 59) rfl (by decide +kernel) f2.1 <|
  WP.putI (pc2 := 62) rfl (by decide +kernel) zc_10 zSh_30 (by decide) rfl lf_X10_27 rfl (z_int _) rfl <|
  WP.vret (by decide +kernel) rfl ⟨rfl, rfl, f2.2⟩)))) (fun h8 => have f10 := f12.2.2.2 h8
  WP.aload_n (pc2 := 37) (i := 0) rfl (by decide +kernel) rfl <|
  WP.callV (y := mX10_addCell) (index := 40) (pc2 := 40) (y' := mX10_addStation) (vs := []) rfl (by decide +kernel) okX10_addStation ⟨by decide, by decide⟩ ⟨lm_X10_40, ivX10_addStation⟩ zSh_30 zc_10 (Nat.le_of_ble_eq_true rfl) ⟨rfl, rfl⟩ rfl (WP.c1v f10 (fun hi6 f7 =>
  WP.goto (off := 12) (tgt := 52) (by decide +kernel) (by decide) <|
  WP.aload_n (pc2 := 53) (i := 0) rfl (by decide +kernel) rfl <|
  WP.dup (pc2 := 54) rfl (by decide +kernel) <|
  WP.getI (pc2 := 57) rfl (by decide +kernel) zc_10 zSh_30 (by decide) rfl lf_X10_27 rfl rfl <|
  WP.iconst (pc2 := 58) (x := 1) rfl (by decide +kernel) (by decide) <|
  WP.iadd (pc2 := 59) rfl (by decide +kernel) f7.1 <|
  WP.putI (pc2 := 62) rfl (by decide +kernel) zc_10 zSh_30 (by decide) rfl lf_X10_27 rfl (z_int _) rfl <|
  WP.vret (by decide +kernel) rfl ⟨rfl, rfl, f7.2⟩)))) (fun h11 => have f13 := F.2 h11
  WP.vret (by decide +kernel) rfl ⟨rfl, rfl, f13⟩))
set_option maxRecDepth 100000 in
set_option maxHeartbeats 4000000 in
theorem GX10_addStation {hi : zI} {hr : zR} {P : zI → Prop} (hR : RSc hr) (j : Int) (hj : 0 ≤ j ∧ j < 2)
    (F : (0 ≤ hi 30 j 5 ∧ hi 30 j 5 < 256) ∧ ((10 ≤ hi 30 j 7 → ((zInR ((hi 30 j 7) + 1)) ∧ (P (zup (zup hi 32 j (hi 30 j 5) (hi 30 j 7)) 30 j 7 ((hi 30 j 7) + 1))))) ∧ (hi 30 j 7 < 10 → ((0 ≤ hi 30 j 7 ∧ hi 30 j 7 < 10) ∧ ((zInR ((hi 30 j 7) + 1)) ∧ (P (zup (zup (zup hi 32 j (hi 30 j 5) (hi 30 j 7)) 34 j (hi 30 j 7) (hi 30 j 5)) 30 j 7 ((hi 30 j 7) + 1)))))))) :
    W1v mX10_addStation [.inr (some (30, j))] hi hr P :=
  WPm.of rfl (show WP mX10_addStation 0 [some (.inr (some (30, j)))] [] hi hr (zQ1v hr P) from
  WP.aload_n (pc2 := 1) (i := 0) rfl (by decide +kernel) rfl <|
  WP.getR (pc2 := 4) rfl (by decide +kernel) zc_10 zSh_30 (by decide) rfl lf_X10_15 rfl (rs_30_1 hR j hj) <|
  WP.aload_n (pc2 := 5) (i := 0) rfl (by decide +kernel) rfl <|
  WP.getI (pc2 := 8) rfl (by decide +kernel) zc_10 zSh_30 (by decide) rfl lf_X10_27 rfl rfl <|
  WP.aload_n (pc2 := 9) (i := 0) rfl (by decide +kernel) rfl <|
  WP.getI (pc2 := 12) rfl (by decide +kernel) zc_10 zSh_30 (by decide) rfl lf_X10_34 rfl rfl <|
  WP.iastore (pc2 := 13) rfl (by decide +kernel) zSh_32 rfl F.1 <|
  WP.aload_n (pc2 := 14) (i := 0) rfl (by decide +kernel) rfl <|
  WP.getI (pc2 := 17) rfl (by decide +kernel) zc_10 zSh_30 (by decide) rfl lf_X10_34 rfl (zup_k _ _ _ _ _ _ (by decide)) <|
  WP.bipush (pc2 := 19) (x := 10) rfl (by decide +kernel) ⟨by decide +kernel, by decide⟩ <|
  WP.icmp_ge (pc2 := 22) (off := 16) (tgt := 35) rfl (by decide +kernel) (by decide) (fun h1 => have f2 := F.2.1 h1
  WP.aload_n (pc2 := 36) (i := 0) rfl (by decide +kernel) rfl <|
  WP.dup (pc2 := 37) rfl (by decide +kernel) <|
  WP.getI (pc2 := 40) rfl (by decide +kernel) zc_10 zSh_30 (by decide) rfl lf_X10_34 rfl (zup_k _ _ _ _ _ _ (by decide)) <|
  WP.iconst (pc2 := 41) (x := 1) rfl (by decide +kernel) (by decide) <|
  WP.iadd (pc2 := 42) rfl (by decide +kernel) f2.1 <|
  WP.putI (pc2 := 45) rfl (by decide +kernel) zc_10 zSh_30 (by decide) rfl lf_X10_34 rfl (z_int _) rfl <|
  WP.vret (by decide +kernel) rfl ⟨rfl, rfl, f2.2⟩) (fun h1 => have f3 := F.2.2 h1
  WP.aload_n (pc2 := 23) (i := 0) rfl (by decide +kernel) rfl <|
  WP.getR (pc2 := 26) rfl (by decide +kernel) zc_10 zSh_30 (by decide) rfl lf_X10_21 rfl (rs_30_3 hR j hj) <|
  WP.aload_n (pc2 := 27) (i := 0) rfl (by decide +kernel) rfl <|
  WP.getI (pc2 := 30) rfl (by decide +kernel) zc_10 zSh_30 (by decide) rfl lf_X10_34 rfl (zup_k _ _ _ _ _ _ (by decide)) <|
  WP.aload_n (pc2 := 31) (i := 0) rfl (by decide +kernel) rfl <|
  WP.getI (pc2 := 34) rfl (by decide +kernel) zc_10 zSh_30 (by decide) rfl lf_X10_27 rfl (zup_k _ _ _ _ _ _ (by decide)) <|
  WP.iastore (pc2 := 35) rfl (by decide +kernel) zSh_34 rfl f3.1 <|
  WP.aload_n (pc2 := 36) (i := 0) rfl (by decide +kernel) rfl <|
  WP.dup (pc2 := 37) rfl (by decide +kernel) <|
  WP.getI (pc2 := 40) rfl (by decide +kernel) zc_10 zSh_30 (by decide) rfl lf_X10_34 rfl ((zup_k _ _ _ _ _ _ (by decide)).trans (zup_k _ _ _ _ _ _ (by decide))) <|
  WP.iconst (pc2 := 41) (x := 1) rfl (by decide +kernel) (by decide) <|
  WP.iadd (pc2 := 42) rfl (by decide +kernel) f3.2.1 <|
  WP.putI (pc2 := 45) rfl (by decide +kernel) zc_10 zSh_30 (by decide) rfl lf_X10_34 rfl (z_int _) rfl <|
  WP.vret (by decide +kernel) rfl ⟨rfl, rfl, f3.2.2⟩))
set_option maxRecDepth 100000 in
set_option maxHeartbeats 4000000 in
theorem GX10_addParking {hi : zI} {hr : zR} {P : zI → Prop} (hR : RSc hr) (j : Int) (hj : 0 ≤ j ∧ j < 2)
    (F : (0 ≤ hi 30 j 5 ∧ hi 30 j 5 < 256) ∧ ((6 ≤ hi 30 j 8 → ((zInR ((hi 30 j 8) + 1)) ∧ (P (zup (zup hi 32 j (hi 30 j 5) (hi 30 j 8)) 30 j 8 ((hi 30 j 8) + 1))))) ∧ (hi 30 j 8 < 6 → ((0 ≤ hi 30 j 8 ∧ hi 30 j 8 < 6) ∧ ((zInR ((hi 30 j 8) + 1)) ∧ (P (zup (zup (zup hi 32 j (hi 30 j 5) (hi 30 j 8)) 35 j (hi 30 j 8) (hi 30 j 5)) 30 j 8 ((hi 30 j 8) + 1)))))))) :
    W1v mX10_addParking [.inr (some (30, j))] hi hr P :=
  WPm.of rfl (show WP mX10_addParking 0 [some (.inr (some (30, j)))] [] hi hr (zQ1v hr P) from
  WP.aload_n (pc2 := 1) (i := 0) rfl (by decide +kernel) rfl <|
  WP.getR (pc2 := 4) rfl (by decide +kernel) zc_10 zSh_30 (by decide) rfl lf_X10_15 rfl (rs_30_1 hR j hj) <|
  WP.aload_n (pc2 := 5) (i := 0) rfl (by decide +kernel) rfl <|
  WP.getI (pc2 := 8) rfl (by decide +kernel) zc_10 zSh_30 (by decide) rfl lf_X10_27 rfl rfl <|
  WP.aload_n (pc2 := 9) (i := 0) rfl (by decide +kernel) rfl <|
  WP.getI (pc2 := 12) rfl (by decide +kernel) zc_10 zSh_30 (by decide) rfl lf_X10_37 rfl rfl <|
  WP.iastore (pc2 := 13) rfl (by decide +kernel) zSh_32 rfl F.1 <|
  WP.aload_n (pc2 := 14) (i := 0) rfl (by decide +kernel) rfl <|
  WP.getI (pc2 := 17) rfl (by decide +kernel) zc_10 zSh_30 (by decide) rfl lf_X10_37 rfl (zup_k _ _ _ _ _ _ (by decide)) <|
  WP.bipush (pc2 := 19) (x := 6) rfl (by decide +kernel) ⟨by decide +kernel, by decide⟩ <|
  WP.icmp_ge (pc2 := 22) (off := 16) (tgt := 35) rfl (by decide +kernel) (by decide) (fun h1 => have f2 := F.2.1 h1
  WP.aload_n (pc2 := 36) (i := 0) rfl (by decide +kernel) rfl <|
  WP.dup (pc2 := 37) rfl (by decide +kernel) <|
  WP.getI (pc2 := 40) rfl (by decide +kernel) zc_10 zSh_30 (by decide) rfl lf_X10_37 rfl (zup_k _ _ _ _ _ _ (by decide)) <|
  WP.iconst (pc2 := 41) (x := 1) rfl (by decide +kernel) (by decide) <|
  WP.iadd (pc2 := 42) rfl (by decide +kernel) f2.1 <|
  WP.putI (pc2 := 45) rfl (by decide +kernel) zc_10 zSh_30 (by decide) rfl lf_X10_37 rfl (z_int _) rfl <|
  WP.vret (by decide +kernel) rfl ⟨rfl, rfl, f2.2⟩) (fun h1 => have f3 := F.2.2 h1
  WP.aload_n (pc2 := 23) (i := 0) rfl (by decide +kernel) rfl <|
  WP.getR (pc2 := 26) rfl (by decide +kernel) zc_10 zSh_30 (by decide) rfl lf_X10_24 rfl (rs_30_4 hR j hj) <|
  WP.aload_n (pc2 := 27) (i := 0) rfl (by decide +kernel) rfl <|
  WP.getI (pc2 := 30) rfl (by decide +kernel) zc_10 zSh_30 (by decide) rfl lf_X10_37 rfl (zup_k _ _ _ _ _ _ (by decide)) <|
  WP.aload_n (pc2 := 31) (i := 0) rfl (by decide +kernel) rfl <|
  WP.getI (pc2 := 34) rfl (by decide +kernel) zc_10 zSh_30 (by decide) rfl lf_X10_27 rfl (zup_k _ _ _ _ _ _ (by decide)) <|
  WP.iastore (pc2 := 35) rfl (by decide +kernel) zSh_35 rfl f3.1 <|
  WP.aload_n (pc2 := 36) (i := 0) rfl (by decide +kernel) rfl <|
  WP.dup (pc2 := 37) rfl (by decide +kernel) <|
  WP.getI (pc2 := 40) rfl (by decide +kernel) zc_10 zSh_30 (by decide) rfl lf_X10_37 rfl ((zup_k _ _ _ _ _ _ (by decide)).trans (zup_k _ _ _ _ _ _ (by decide))) <|
  WP.iconst (pc2 := 41) (x := 1) rfl (by decide +kernel) (by decide) <|
  WP.iadd (pc2 := 42) rfl (by decide +kernel) f3.2.1 <|
  WP.putI (pc2 := 45) rfl (by decide +kernel) zc_10 zSh_30 (by decide) rfl lf_X10_37 rfl (z_int _) rfl <|
  WP.vret (by decide +kernel) rfl ⟨rfl, rfl, f3.2.2⟩))
set_option maxRecDepth 100000 in
set_option maxHeartbeats 4000000 in
theorem GX10_hasCell {hi : zI} {hr : zR} {P : Int → Prop} (j : Int) (l1 : Int) (hj : 0 ≤ j ∧ j < 2)
    (F : (l1 < 0 → P 0) ∧ (0 ≤ l1 → ((hi 30 j 5 ≤ l1 → P 0) ∧ (l1 < hi 30 j 5 → ((256 ≤ l1 → P 0) ∧ (l1 < 256 → P 1)))))) :
    W0i mX10_hasCell [.inr (some (30, j)), .inl l1] hi hr P :=
  WPm.of rfl (show WP mX10_hasCell 0 [some (.inr (some (30, j))), some (.inl l1)] [] hi hr (zQ0i hi hr P) from
  WP.iload_n (pc2 := 1) (i := 1) rfl (by decide +kernel) rfl <|
  WP.if_lt (pc2 := 4) (off := 22) (tgt := 23) rfl (by decide +kernel) (by decide) (fun h7 => have f8 := F.1 h7
  WP.iconst (pc2 := 24) (x := 0) rfl (by decide +kernel) (by decide) <|
  WP.zret (by decide +kernel) rfl (by decide) (fun hx => ⟨_, rfl, hx, rfl, rfl, f8⟩)) (fun h7 => have f9 := F.2 h7
  WP.iload_n (pc2 := 5) (i := 1) rfl (by decide +kernel) rfl <|
  WP.aload_n (pc2 := 6) (i := 0) rfl (by decide +kernel) rfl <|
  WP.getI (pc2 := 9) rfl (by decide +kernel) zc_10 zSh_30 (by decide) rfl lf_X10_27 rfl rfl <|
  WP.icmp_ge (pc2 := 12) (off := 14) (tgt := 23) rfl (by decide +kernel) (by decide) (fun h4 => have f5 := f9.1 h4
  WP.iconst (pc2 := 24) (x := 0) rfl (by decide +kernel) (by decide) <|
  WP.zret (by decide +kernel) rfl (by decide) (fun hx => ⟨_, rfl, hx, rfl, rfl, f5⟩)) (fun h4 => have f6 := f9.2 h4
  WP.iload_n (pc2 := 13) (i := 1) rfl (by decide +kernel) rfl <|
  WP.sipush (pc2 := 16) (x := 256) rfl (by decide +kernel) ⟨by decide +kernel, by decide⟩ <|
  WP.icmp_ge (pc2 := 19) (off := 7) (tgt := 23) rfl (by decide +kernel) (by decide) (fun h1 => have f2 := f6.1 h1
  WP.iconst (pc2 := 24) (x := 0) rfl (by decide +kernel) (by decide) <|
  WP.zret (by decide +kernel) rfl (by decide) (fun hx => ⟨_, rfl, hx, rfl, rfl, f2⟩)) (fun h1 => have f3 := f6.2 h1
  WP.iconst (pc2 := 20) (x := 1) rfl (by decide +kernel) (by decide) <|
  WP.goto (off := 4) (tgt := 24) (by decide +kernel) (by decide) <|
  WP.zret (by decide +kernel) rfl (by decide) (fun hx => ⟨_, rfl, hx, rfl, rfl, f3⟩)))))
set_option maxRecDepth 100000 in
set_option maxHeartbeats 4000000 in
theorem GX10_kindOf {hi : zI} {hr : zR} {P : Int → Prop} (hR : RSc hr) (j : Int) (l1 : Int) (hj : 0 ≤ j ∧ j < 2)
    (F : W0i mX10_hasCell [.inr (some (30, j)), .inl l1] hi hr (fun (x1 : Int) => (x1 = 0 → (P (-1))) ∧ (x1 ≠ 0 → ((0 ≤ l1 ∧ l1 < 256) ∧ (P (hi 31 j l1)))))) :
    W0i mX10_kindOf [.inr (some (30, j)), .inl l1] hi hr P :=
  WPm.of rfl (show WP mX10_kindOf 0 [some (.inr (some (30, j))), some (.inl l1)] [] hi hr (zQ0i hi hr P) from
  WP.aload_n (pc2 := 1) (i := 0) rfl (by decide +kernel) rfl <|
  WP.iload_n (pc2 := 2) (i := 1) rfl (by decide +kernel) rfl <|
  WP.callV (y := mX10_kindOf) (index := 46) (pc2 := 5) (y' := mX10_hasCell) (vs := [.inl l1]) rfl (by decide +kernel) okX10_hasCell ⟨by decide, by decide⟩ ⟨lm_X10_46, ivX10_hasCell⟩ zSh_30 zc_10 (Nat.le_of_ble_eq_true rfl) ⟨rfl, rfl⟩ rfl (WP.c0i F (fun x1 _ f5 =>
  WP.if_eq (pc2 := 8) (off := 12) (tgt := 17) rfl (by decide +kernel) (by decide) (fun h2 => have f3 := f5.1 h2
  WP.iconst (pc2 := 18) (x := -1) rfl (by decide +kernel) (by decide) <|
  WP.iret (by decide +kernel) rfl (fun hx => ⟨_, rfl, hx, rfl, rfl, f3⟩)) (fun h2 => have f4 := f5.2 h2
  WP.aload_n (pc2 := 9) (i := 0) rfl (by decide +kernel) rfl <|
  WP.getR (pc2 := 12) rfl (by decide +kernel) zc_10 zSh_30 (by decide) rfl lf_X10_9 rfl (rs_30_0 hR j hj) <|
  WP.iload_n (pc2 := 13) (i := 1) rfl (by decide +kernel) rfl <|
  WP.iaload (pc2 := 14) rfl (by decide +kernel) zSh_31 rfl f4.1 rfl <|
  WP.goto (off := 4) (tgt := 18) (by decide +kernel) (by decide) <|
  WP.iret (by decide +kernel) rfl (fun hx => ⟨_, rfl, hx, rfl, rfl, f4.2⟩)))))
set_option maxRecDepth 100000 in
set_option maxHeartbeats 4000000 in
theorem GX10_ordinalOf {hi : zI} {hr : zR} {P : Int → Prop} (hR : RSc hr) (j : Int) (l1 : Int) (hj : 0 ≤ j ∧ j < 2)
    (F : W0i mX10_hasCell [.inr (some (30, j)), .inl l1] hi hr (fun (x1 : Int) => (x1 = 0 → (P (-1))) ∧ (x1 ≠ 0 → ((0 ≤ l1 ∧ l1 < 256) ∧ (P (hi 32 j l1)))))) :
    W0i mX10_ordinalOf [.inr (some (30, j)), .inl l1] hi hr P :=
  WPm.of rfl (show WP mX10_ordinalOf 0 [some (.inr (some (30, j))), some (.inl l1)] [] hi hr (zQ0i hi hr P) from
  WP.aload_n (pc2 := 1) (i := 0) rfl (by decide +kernel) rfl <|
  WP.iload_n (pc2 := 2) (i := 1) rfl (by decide +kernel) rfl <|
  WP.callV (y := mX10_ordinalOf) (index := 46) (pc2 := 5) (y' := mX10_hasCell) (vs := [.inl l1]) rfl (by decide +kernel) okX10_hasCell ⟨by decide, by decide⟩ ⟨lm_X10_46, ivX10_hasCell⟩ zSh_30 zc_10 (Nat.le_of_ble_eq_true rfl) ⟨rfl, rfl⟩ rfl (WP.c0i F (fun x1 _ f5 =>
  WP.if_eq (pc2 := 8) (off := 12) (tgt := 17) rfl (by decide +kernel) (by decide) (fun h2 => have f3 := f5.1 h2
  WP.iconst (pc2 := 18) (x := -1) rfl (by decide +kernel) (by decide) <|
  WP.iret (by decide +kernel) rfl (fun hx => ⟨_, rfl, hx, rfl, rfl, f3⟩)) (fun h2 => have f4 := f5.2 h2
  WP.aload_n (pc2 := 9) (i := 0) rfl (by decide +kernel) rfl <|
  WP.getR (pc2 := 12) rfl (by decide +kernel) zc_10 zSh_30 (by decide) rfl lf_X10_15 rfl (rs_30_1 hR j hj) <|
  WP.iload_n (pc2 := 13) (i := 1) rfl (by decide +kernel) rfl <|
  WP.iaload (pc2 := 14) rfl (by decide +kernel) zSh_32 rfl f4.1 rfl <|
  WP.goto (off := 4) (tgt := 18) (by decide +kernel) (by decide) <|
  WP.iret (by decide +kernel) rfl (fun hx => ⟨_, rfl, hx, rfl, rfl, f4.2⟩)))))
set_option maxRecDepth 100000 in
set_option maxHeartbeats 4000000 in
theorem GX10_isEndpoint {hi : zI} {hr : zR} {P : Int → Prop} (j : Int) (l1 : Int) (hj : 0 ≤ j ∧ j < 2)
    (F : W0i mX10_kindOf [.inr (some (30, j)), .inl l1] hi hr (fun (x1 : Int) => (x1 = 2 → P 1) ∧ (x1 ≠ 2 → ((x1 ≠ 3 → P 0) ∧ (x1 = 3 → P 1))))) :
    W0i mX10_isEndpoint [.inr (some (30, j)), .inl l1] hi hr P :=
  WPm.of rfl (show WP mX10_isEndpoint 0 [some (.inr (some (30, j))), some (.inl l1), none] [] hi hr (zQ0i hi hr P) from
  WP.aload_n (pc2 := 1) (i := 0) rfl (by decide +kernel) rfl <|
  WP.iload_n (pc2 := 2) (i := 1) rfl (by decide +kernel) rfl <|
  WP.callV (y := mX10_isEndpoint) (index := 50) (pc2 := 5) (y' := mX10_kindOf) (vs := [.inl l1]) rfl (by decide +kernel) okX10_kindOf ⟨by decide, by decide⟩ ⟨lm_X10_50, ivX10_kindOf⟩ zSh_30 zc_10 (Nat.le_of_ble_eq_true rfl) ⟨rfl, rfl⟩ rfl (WP.c0i F (fun x1 _ f8 =>
  WP.istore_n (pc2 := 6) (i := 2) rfl (by decide +kernel) (by decide) <|
  WP.iload_n (pc2 := 7) (i := 2) rfl (by decide +kernel) rfl <|
  WP.iconst (pc2 := 8) (x := 2) rfl (by decide +kernel) (by decide) <|
  WP.icmp_eq (pc2 := 11) (off := 8) (tgt := 16) rfl (by decide +kernel) (by decide) (fun h5 => have f6 := f8.1 h5
  WP.iconst (pc2 := 17) (x := 1) rfl (by decide +kernel) (by decide) <|
  WP.goto (off := 4) (tgt := 21) (by decide +kernel) (by decide) <|
  WP.zret (by decide +kernel) rfl (by decide) (fun hx => ⟨_, rfl, hx, rfl, rfl, f6⟩)) (fun h5 => have f7 := f8.2 h5
  WP.iload_n (pc2 := 12) (i := 2) rfl (by decide +kernel) rfl <|
  WP.iconst (pc2 := 13) (x := 3) rfl (by decide +kernel) (by decide) <|
  WP.icmp_ne (pc2 := 16) (off := 7) (tgt := 20) rfl (by decide +kernel) (by decide) (fun h2 => have f3 := f7.1 h2
  WP.iconst (pc2 := 21) (x := 0) rfl (by decide +kernel) (by decide) <|
  WP.zret (by decide +kernel) rfl (by decide) (fun hx => ⟨_, rfl, hx, rfl, rfl, f3⟩)) (fun h2 => have f4 := f7.2 h2
  WP.iconst (pc2 := 17) (x := 1) rfl (by decide +kernel) (by decide) <|
  WP.goto (off := 4) (tgt := 21) (by decide +kernel) (by decide) <|
  WP.zret (by decide +kernel) rfl (by decide) (fun hx => ⟨_, rfl, hx, rfl, rfl, f4⟩))))))
set_option maxRecDepth 100000 in
set_option maxHeartbeats 4000000 in
theorem GX10_stationCell {hi : zI} {hr : zR} {P : Int → Prop} (hR : RSc hr) (j : Int) (l1 : Int) (hj : 0 ≤ j ∧ j < 2)
    (F : (l1 < 0 → (P (-1))) ∧ (0 ≤ l1 → ((hi 30 j 7 ≤ l1 → (P (-1))) ∧ (l1 < hi 30 j 7 → ((10 ≤ l1 → (P (-1))) ∧ (l1 < 10 → ((0 ≤ l1 ∧ l1 < 10) ∧ (P (hi 34 j l1))))))))) :
    W0i mX10_stationCell [.inr (some (30, j)), .inl l1] hi hr P :=
  WPm.of rfl (show WP mX10_stationCell 0 [some (.inr (some (30, j))), some (.inl l1)] [] hi hr (zQ0i hi hr P) from
  WP.iload_n (pc2 := 1) (i := 1) rfl (by decide +kernel) rfl <|
  WP.if_lt (pc2 := 4) (off := 26) (tgt := 27) rfl (by decide +kernel) (by decide) (fun h7 => have f8 := F.1 h7
  WP.iconst (pc2 := 28) (x := -1) rfl (by decide +kernel) (by decide) <|
  WP.iret (by decide +kernel) rfl (fun hx => ⟨_, rfl, hx, rfl, rfl, f8⟩)) (fun h7 => have f9 := F.2 h7
  WP.iload_n (pc2 := 5) (i := 1) rfl (by decide +kernel) rfl <|
  WP.aload_n (pc2 := 6) (i := 0) rfl (by decide +kernel) rfl <|
  WP.getI (pc2 := 9) rfl (by decide +kernel) zc_10 zSh_30 (by decide) rfl lf_X10_34 rfl rfl <|
  WP.icmp_ge (pc2 := 12) (off := 18) (tgt := 27) rfl (by decide +kernel) (by decide) (fun h4 => have f5 := f9.1 h4
  WP.iconst (pc2 := 28) (x := -1) rfl (by decide +kernel) (by decide) <|
  WP.iret (by decide +kernel) rfl (fun hx => ⟨_, rfl, hx, rfl, rfl, f5⟩)) (fun h4 => have f6 := f9.2 h4
  WP.iload_n (pc2 := 13) (i := 1) rfl (by decide +kernel) rfl <|
  WP.bipush (pc2 := 15) (x := 10) rfl (by decide +kernel) ⟨by decide +kernel, by decide⟩ <|
  WP.icmp_ge (pc2 := 18) (off := 12) (tgt := 27) rfl (by decide +kernel) (by decide) (fun h1 => have f2 := f6.1 h1
  WP.iconst (pc2 := 28) (x := -1) rfl (by decide +kernel) (by decide) <|
  WP.iret (by decide +kernel) rfl (fun hx => ⟨_, rfl, hx, rfl, rfl, f2⟩)) (fun h1 => have f3 := f6.2 h1
  WP.aload_n (pc2 := 19) (i := 0) rfl (by decide +kernel) rfl <|
  WP.getR (pc2 := 22) rfl (by decide +kernel) zc_10 zSh_30 (by decide) rfl lf_X10_21 rfl (rs_30_3 hR j hj) <|
  WP.iload_n (pc2 := 23) (i := 1) rfl (by decide +kernel) rfl <|
  WP.iaload (pc2 := 24) rfl (by decide +kernel) zSh_34 rfl f3.1 rfl <|
  WP.goto (off := 4) (tgt := 28) (by decide +kernel) (by decide) <|
  WP.iret (by decide +kernel) rfl (fun hx => ⟨_, rfl, hx, rfl, rfl, f3.2⟩)))))
set_option maxRecDepth 100000 in
set_option maxHeartbeats 4000000 in
theorem GX10_parkingCell {hi : zI} {hr : zR} {P : Int → Prop} (hR : RSc hr) (j : Int) (l1 : Int) (hj : 0 ≤ j ∧ j < 2)
    (F : (l1 < 0 → (P (-1))) ∧ (0 ≤ l1 → ((hi 30 j 8 ≤ l1 → (P (-1))) ∧ (l1 < hi 30 j 8 → ((6 ≤ l1 → (P (-1))) ∧ (l1 < 6 → ((0 ≤ l1 ∧ l1 < 6) ∧ (P (hi 35 j l1))))))))) :
    W0i mX10_parkingCell [.inr (some (30, j)), .inl l1] hi hr P :=
  WPm.of rfl (show WP mX10_parkingCell 0 [some (.inr (some (30, j))), some (.inl l1)] [] hi hr (zQ0i hi hr P) from
  WP.iload_n (pc2 := 1) (i := 1) rfl (by decide +kernel) rfl <|
  WP.if_lt (pc2 := 4) (off := 26) (tgt := 27) rfl (by decide +kernel) (by decide) (fun h7 => have f8 := F.1 h7
  WP.iconst (pc2 := 28) (x := -1) rfl (by decide +kernel) (by decide) <|
  WP.iret (by decide +kernel) rfl (fun hx => ⟨_, rfl, hx, rfl, rfl, f8⟩)) (fun h7 => have f9 := F.2 h7
  WP.iload_n (pc2 := 5) (i := 1) rfl (by decide +kernel) rfl <|
  WP.aload_n (pc2 := 6) (i := 0) rfl (by decide +kernel) rfl <|
  WP.getI (pc2 := 9) rfl (by decide +kernel) zc_10 zSh_30 (by decide) rfl lf_X10_37 rfl rfl <|
  WP.icmp_ge (pc2 := 12) (off := 18) (tgt := 27) rfl (by decide +kernel) (by decide) (fun h4 => have f5 := f9.1 h4
  WP.iconst (pc2 := 28) (x := -1) rfl (by decide +kernel) (by decide) <|
  WP.iret (by decide +kernel) rfl (fun hx => ⟨_, rfl, hx, rfl, rfl, f5⟩)) (fun h4 => have f6 := f9.2 h4
  WP.iload_n (pc2 := 13) (i := 1) rfl (by decide +kernel) rfl <|
  WP.bipush (pc2 := 15) (x := 6) rfl (by decide +kernel) ⟨by decide +kernel, by decide⟩ <|
  WP.icmp_ge (pc2 := 18) (off := 12) (tgt := 27) rfl (by decide +kernel) (by decide) (fun h1 => have f2 := f6.1 h1
  WP.iconst (pc2 := 28) (x := -1) rfl (by decide +kernel) (by decide) <|
  WP.iret (by decide +kernel) rfl (fun hx => ⟨_, rfl, hx, rfl, rfl, f2⟩)) (fun h1 => have f3 := f6.2 h1
  WP.aload_n (pc2 := 19) (i := 0) rfl (by decide +kernel) rfl <|
  WP.getR (pc2 := 22) rfl (by decide +kernel) zc_10 zSh_30 (by decide) rfl lf_X10_24 rfl (rs_30_4 hR j hj) <|
  WP.iload_n (pc2 := 23) (i := 1) rfl (by decide +kernel) rfl <|
  WP.iaload (pc2 := 24) rfl (by decide +kernel) zSh_35 rfl f3.1 rfl <|
  WP.goto (off := 4) (tgt := 28) (by decide +kernel) (by decide) <|
  WP.iret (by decide +kernel) rfl (fun hx => ⟨_, rfl, hx, rfl, rfl, f3.2⟩)))))
set_option maxRecDepth 100000 in
set_option maxHeartbeats 4000000 in
theorem GX10_joinCells {hi : zI} {hr : zR} {P : zI → Prop} (j : Int) (hj : 0 ≤ j ∧ j < 2)
    (F : WP mX10_joinCells 2 [some (.inr (some (30, j))), some (.inl 0), none, none] [] hi hr (zQ1v hr P)) :
    W1v mX10_joinCells [.inr (some (30, j))] hi hr P :=
  WPm.of rfl (show WP mX10_joinCells 0 [some (.inr (some (30, j))), none, none, none] [] hi hr (zQ1v hr P) from
  WP.iconst (pc2 := 1) (x := 0) rfl (by decide +kernel) (by decide) <|
  WP.istore_n (pc2 := 2) (i := 1) rfl (by decide +kernel) (by decide) <|
  F)

set_option maxRecDepth 100000 in
set_option maxHeartbeats 4000000 in
theorem GX10_joinCells_19 {hi : zI} {hr : zR} {P : zI → Prop} (hR : RSc hr) (j : Int) (a1 : Int) (a2 : Int) (u3 : Option zV) (hj : 0 ≤ j ∧ j < 2)
    (F : (4 ≤ a2 → ((zInR (a1 + 1)) ∧ (WP mX10_joinCells 2 [some (.inr (some (30, j))), some (.inl (a1 + 1)), some (.inl a2), u3] [] hi hr (zQ1v hr P)))) ∧ (a2 < 4 → (W0i mX10_cellBeside [.inr (some (30, j)), .inl a1, .inl a2] hi hr (fun (x23 : Int) => (zInR (a1 * 4)) ∧ ((zInR ((a1 * 4) + a2)) ∧ (W0i mX10_kindOf [.inr (some (30, j)), .inl x23] hi hr (fun (x24 : Int) => (x24 ≠ 0 → ((0 ≤ (a1 * 4) + a2 ∧ (a1 * 4) + a2 < 1024) ∧ ((zInR (a2 + 1)) ∧ (WP mX10_joinCells 19 [some (.inr (some (30, j))), some (.inl a1), some (.inl (a2 + 1)), some (.inl x23)] [] (zup hi 33 j ((a1 * 4) + a2) x23) hr (zQ1v hr P))))) ∧ (x24 = 0 → ((0 ≤ (a1 * 4) + a2 ∧ (a1 * 4) + a2 < 1024) ∧ ((zInR (a2 + 1)) ∧ (WP mX10_joinCells 19 [some (.inr (some (30, j))), some (.inl a1), some (.inl (a2 + 1)), some (.inl x23)] [] (zup hi 33 j ((a1 * 4) + a2) (-1)) hr (zQ1v hr P)))))))))))) :
    WP mX10_joinCells 19 [some (.inr (some (30, j))), some (.inl a1), some (.inl a2), u3] [] hi hr (zQ1v hr P) :=
  WP.iload_n (pc2 := 20) (i := 2) rfl (by decide +kernel) rfl <|
  WP.iconst (pc2 := 21) (x := 4) rfl (by decide +kernel) (by decide) <|
  WP.icmp_ge (pc2 := 24) (off := 39) (tgt := 60) rfl (by decide +kernel) (by decide) (fun h30 => have f31 := F.1 h30
  WP.iinc (pc2 := 63) (i := 1) (d := 1) rfl (by decide +kernel) rfl f31.1 <|
  WP.goto (off := -61) (tgt := 2) (by decide +kernel) (by decide) <|
  f31.2) (fun h30 => have f32 := F.2 h30
  WP.aload_n (pc2 := 25) (i := 0) rfl (by decide +kernel) rfl <|
  WP.iload_n (pc2 := 26) (i := 1) rfl (by decide +kernel) rfl <|
  WP.iload_n (pc2 := 27) (i := 2) rfl (by decide +kernel) rfl <|
  WP.callV (y := mX10_joinCells) (index := 54) (pc2 := 30) (y' := mX10_cellBeside) (vs := [.inl a1, .inl a2]) rfl (by decide +kernel) okX10_cellBeside ⟨by decide, by decide⟩ ⟨lm_X10_54, ivX10_cellBeside⟩ zSh_30 zc_10 (Nat.le_of_ble_eq_true rfl) ⟨rfl, rfl⟩ rfl (WP.c0i f32 (fun x23 _ f29 =>
  WP.istore_n (pc2 := 31) (i := 3) rfl (by decide +kernel) (by decide) <|
  WP.aload_n (pc2 := 32) (i := 0) rfl (by decide +kernel) rfl <|
  WP.getR (pc2 := 35) rfl (by decide +kernel) zc_10 zSh_30 (by decide) rfl lf_X10_18 rfl (rs_30_2 hR j hj) <|
  WP.iload_n (pc2 := 36) (i := 1) rfl (by decide +kernel) rfl <|
  WP.iconst (pc2 := 37) (x := 4) rfl (by decide +kernel) (by decide) <|
  WP.imul (pc2 := 38) rfl (by decide +kernel) f29.1 <|
  WP.iload_n (pc2 := 39) (i := 2) rfl (by decide +kernel) rfl <|
  WP.iadd (pc2 := 40) rfl (by decide +kernel) f29.2.1 <|
  WP.aload_n (pc2 := 41) (i := 0) rfl (by decide +kernel) rfl <|
  WP.iload_n (pc2 := 42) (i := 3) rfl (by decide +kernel) rfl <|
  WP.callV (y := mX10_joinCells) (index := 50) (pc2 := 45) (y' := mX10_kindOf) (vs := [.inl x23]) rfl (by decide +kernel) okX10_kindOf ⟨by decide, by decide⟩ ⟨lm_X10_50, ivX10_kindOf⟩ zSh_30 zc_10 (Nat.le_of_ble_eq_true rfl) ⟨rfl, rfl⟩ rfl (WP.c0i f29.2.2 (fun x24 _ f28 =>
  WP.if_ne (pc2 := 48) (off := 7) (tgt := 52) rfl (by decide +kernel) (by decide) (fun h25 => have f26 := f28.1 h25
  WP.iload_n (pc2 := 53) (i := 3) rfl (by decide +kernel) rfl <|
  WP.iastore (pc2 := 54) rfl (by decide +kernel) zSh_33 rfl f26.1 <|
  WP.iinc (pc2 := 57) (i := 2) (d := 1) rfl (by decide +kernel) rfl f26.2.1 <|
  WP.goto (off := -38) (tgt := 19) (by decide +kernel) (by decide) <|
  f26.2.2) (fun h25 => have f27 := f28.2 h25
  WP.iconst (pc2 := 49) (x := -1) rfl (by decide +kernel) (by decide) <|
  WP.goto (off := 4) (tgt := 53) (by decide +kernel) (by decide) <|
  WP.iastore (pc2 := 54) rfl (by decide +kernel) zSh_33 rfl f27.1 <|
  WP.iinc (pc2 := 57) (i := 2) (d := 1) rfl (by decide +kernel) rfl f27.2.1 <|
  WP.goto (off := -38) (tgt := 19) (by decide +kernel) (by decide) <|
  f27.2.2))))))

set_option maxRecDepth 100000 in
set_option maxHeartbeats 4000000 in
theorem GX10_joinCells_2 {hi : zI} {hr : zR} {P : zI → Prop} (j : Int) (a1 : Int) (u2 : Option zV) (u3 : Option zV) (hj : 0 ≤ j ∧ j < 2)
    (F : (hi 30 j 5 ≤ a1 → P hi) ∧ (a1 < hi 30 j 5 → ((256 ≤ a1 → P hi) ∧ (a1 < 256 → (WP mX10_joinCells 19 [some (.inr (some (30, j))), some (.inl a1), some (.inl 0), u3] [] hi hr (zQ1v hr P)))))) :
    WP mX10_joinCells 2 [some (.inr (some (30, j))), some (.inl a1), u2, u3] [] hi hr (zQ1v hr P) :=
  WP.iload_n (pc2 := 3) (i := 1) rfl (by decide +kernel) rfl <|
  WP.aload_n (pc2 := 4) (i := 0) rfl (by decide +kernel) rfl <|
  WP.getI (pc2 := 7) rfl (by decide +kernel) zc_10 zSh_30 (by decide) rfl lf_X10_27 rfl rfl <|
  WP.icmp_ge (pc2 := 10) (off := 59) (tgt := 66) rfl (by decide +kernel) (by decide) (fun h36 => have f37 := F.1 h36
  WP.vret (by decide +kernel) rfl ⟨rfl, rfl, f37⟩) (fun h36 => have f38 := F.2 h36
  WP.iload_n (pc2 := 11) (i := 1) rfl (by decide +kernel) rfl <|
  WP.sipush (pc2 := 14) (x := 256) rfl (by decide +kernel) ⟨by decide +kernel, by decide⟩ <|
  WP.icmp_ge (pc2 := 17) (off := 52) (tgt := 66) rfl (by decide +kernel) (by decide) (fun h33 => have f34 := f38.1 h33
  WP.vret (by decide +kernel) rfl ⟨rfl, rfl, f34⟩) (fun h33 => have f35 := f38.2 h33
  WP.iconst (pc2 := 18) (x := 0) rfl (by decide +kernel) (by decide) <|
  WP.istore_n (pc2 := 19) (i := 2) rfl (by decide +kernel) (by decide) <|
  f35))
set_option maxRecDepth 100000 in
set_option maxHeartbeats 4000000 in
theorem GX10_cellBeside {hi : zI} {hr : zR} {P : Int → Prop} (j : Int) (l1 : Int) (l2 : Int) (hj : 0 ≤ j ∧ j < 2)
    (F : (hi 30 j 6 ≤ 0 → (((l2 < 0 ∨ 3 < l2) → (P (-1))) ∧ (l2 = 0 → ((l1 < hi 30 j 6 → (P (-1))) ∧ (hi 30 j 6 ≤ l1 → ((zInR (l1 - (hi 30 j 6))) ∧ (P (l1 - (hi 30 j 6))))))) ∧ (l2 = 1 → ((hi 30 j 6 ≤ (0 : Int) + 1 → (P (-1))) ∧ ((0 : Int) + 1 < hi 30 j 6 → ((zInR (l1 + 1)) ∧ (P (l1 + 1)))))) ∧ (l2 = 2 → ((zInR (l1 + (hi 30 j 6))) ∧ ((hi 30 j 5 ≤ l1 + (hi 30 j 6) → (P (-1))) ∧ (l1 + (hi 30 j 6) < hi 30 j 5 → ((zInR (l1 + (hi 30 j 6))) ∧ (P (l1 + (hi 30 j 6)))))))) ∧ (l2 = 3 → (P (-1))))) ∧ (0 < hi 30 j 6 → ((0 ≤ l1 ∧ 0 < hi 30 j 6) ∧ (((l2 < 0 ∨ 3 < l2) → (P (-1))) ∧ (l2 = 0 → ((l1 < hi 30 j 6 → (P (-1))) ∧ (hi 30 j 6 ≤ l1 → ((zInR (l1 - (hi 30 j 6))) ∧ (P (l1 - (hi 30 j 6))))))) ∧ (l2 = 1 → ((zInR ((l1 % (hi 30 j 6)) + 1)) ∧ ((hi 30 j 6 ≤ (l1 % (hi 30 j 6)) + 1 → (P (-1))) ∧ ((l1 % (hi 30 j 6)) + 1 < hi 30 j 6 → ((zInR (l1 + 1)) ∧ (P (l1 + 1))))))) ∧ (l2 = 2 → ((zInR (l1 + (hi 30 j 6))) ∧ ((hi 30 j 5 ≤ l1 + (hi 30 j 6) → (P (-1))) ∧ (l1 + (hi 30 j 6) < hi 30 j 5 → ((zInR (l1 + (hi 30 j 6))) ∧ (P (l1 + (hi 30 j 6)))))))) ∧ (l2 = 3 → ((l1 % (hi 30 j 6) ≤ 0 → (P (-1))) ∧ (0 < l1 % (hi 30 j 6) → ((zInR (l1 - 1)) ∧ (P (l1 - 1)))))))))) :
    W0i mX10_cellBeside [.inr (some (30, j)), .inl l1, .inl l2] hi hr P :=
  WPm.of rfl (show WP mX10_cellBeside 0 [some (.inr (some (30, j))), some (.inl l1), some (.inl l2), none] [] hi hr (zQ0i hi hr P) from
  WP.aload_n (pc2 := 1) (i := 0) rfl (by decide +kernel) rfl <|
  WP.getI (pc2 := 4) rfl (by decide +kernel) zc_10 zSh_30 (by decide) rfl lf_X10_31 rfl rfl <|
  WP.if_le (pc2 := 7) (off := 12) (tgt := 16) rfl (by decide +kernel) (by decide) (fun h24 => have f25 := F.1 h24
  WP.iconst (pc2 := 17) (x := 0) rfl (by decide +kernel) (by decide) <|
  WP.istore_n (pc2 := 18) (i := 3) rfl (by decide +kernel) (by decide) <|
  WP.iload_n (pc2 := 19) (i := 2) rfl (by decide +kernel) rfl <|
  WP.tsw (dflt := 102) (lo := 0) (hi' := 3) (offs := #[29, 48, 66, 90]) (len := 29) (by decide +kernel) (fun h10 => ⟨121, by decide, have f27 := f25.1 h10
  WP.iconst (pc2 := 122) (x := -1) rfl (by decide +kernel) (by decide) <|
  WP.iret (by decide +kernel) rfl (fun hx => ⟨_, rfl, hx, rfl, rfl, f27⟩)⟩) (fun h1 h2 => by
  rcases (show l2 = 0 ∨ l2 = 1 ∨ l2 = 2 ∨ l2 = 3 by omega) with h10 | h10 | h10 | h10
  · exact ⟨_, 48, by rw [h10]; rfl, by decide, have f28 := f25.2.1 h10
    WP.iload_n (pc2 := 49) (i := 1) rfl (by decide +kernel) rfl <|
  WP.aload_n (pc2 := 50) (i := 0) rfl (by decide +kernel) rfl <|
  WP.getI (pc2 := 53) rfl (by decide +kernel) zc_10 zSh_30 (by decide) rfl lf_X10_31 rfl rfl <|
  WP.icmp_lt (pc2 := 56) (off := 12) (tgt := 65) rfl (by decide +kernel) (by decide) (fun h1 => have f2 := f28.1 h1
  WP.iconst (pc2 := 66) (x := -1) rfl (by decide +kernel) (by decide) <|
  WP.iret (by decide +kernel) rfl (fun hx => ⟨_, rfl, hx, rfl, rfl, f2⟩)) (fun h1 => have f3 := f28.2 h1
  WP.iload_n (pc2 := 57) (i := 1) rfl (by decide +kernel) rfl <|
  WP.aload_n (pc2 := 58) (i := 0) rfl (by decide +kernel) rfl <|
  WP.getI (pc2 := 61) rfl (by decide +kernel) zc_10 zSh_30 (by decide) rfl lf_X10_31 rfl rfl <|
  WP.isub (pc2 := 62) rfl (by decide +kernel) f3.1 <|
  WP.goto (off := 4) (tgt := 66) (by decide +kernel) (by decide) <|
  WP.iret (by decide +kernel) rfl (fun hx => ⟨_, rfl, hx, rfl, rfl, f3.2⟩))⟩
  · exact ⟨_, 67, by rw [h10]; rfl, by decide, have f29 := f25.2.2.1 h10
    WP.iload_n (pc2 := 68) (i := 3) rfl (by decide +kernel) rfl <|
  WP.iconst (pc2 := 69) (x := 1) rfl (by decide +kernel) (by decide) <|
  WP.iadd (pc2 := 70) rfl (by decide +kernel) (by decide) <|
  WP.aload_n (pc2 := 71) (i := 0) rfl (by decide +kernel) rfl <|
  WP.getI (pc2 := 74) rfl (by decide +kernel) zc_10 zSh_30 (by decide) rfl lf_X10_31 rfl rfl <|
  WP.icmp_ge (pc2 := 77) (off := 9) (tgt := 83) rfl (by decide +kernel) (by decide) (fun h4 => have f5 := f29.1 h4
  WP.iconst (pc2 := 84) (x := -1) rfl (by decide +kernel) (by decide) <|
  WP.iret (by decide +kernel) rfl (fun hx => ⟨_, rfl, hx, rfl, rfl, f5⟩)) (fun h4 => have f6 := f29.2 h4
  WP.iload_n (pc2 := 78) (i := 1) rfl (by decide +kernel) rfl <|
  WP.iconst (pc2 := 79) (x := 1) rfl (by decide +kernel) (by decide) <|
  WP.iadd (pc2 := 80) rfl (by decide +kernel) f6.1 <|
  WP.goto (off := 4) (tgt := 84) (by decide +kernel) (by decide) <|
  WP.iret (by decide +kernel) rfl (fun hx => ⟨_, rfl, hx, rfl, rfl, f6.2⟩))⟩
  · exact ⟨_, 85, by rw [h10]; rfl, by decide, have f30 := f25.2.2.2.1 h10
    WP.iload_n (pc2 := 86) (i := 1) rfl (by decide +kernel) rfl <|
  WP.aload_n (pc2 := 87) (i := 0) rfl (by decide +kernel) rfl <|
  WP.getI (pc2 := 90) rfl (by decide +kernel) zc_10 zSh_30 (by decide) rfl lf_X10_31 rfl rfl <|
  WP.iadd (pc2 := 91) rfl (by decide +kernel) f30.1 <|
  WP.aload_n (pc2 := 92) (i := 0) rfl (by decide +kernel) rfl <|
  WP.getI (pc2 := 95) rfl (by decide +kernel) zc_10 zSh_30 (by decide) rfl lf_X10_27 rfl rfl <|
  WP.icmp_ge (pc2 := 98) (off := 12) (tgt := 107) rfl (by decide +kernel) (by decide) (fun h7 => have f8 := f30.2.1 h7
  WP.iconst (pc2 := 108) (x := -1) rfl (by decide +kernel) (by decide) <|
  WP.iret (by decide +kernel) rfl (fun hx => ⟨_, rfl, hx, rfl, rfl, f8⟩)) (fun h7 => have f9 := f30.2.2 h7
  WP.iload_n (pc2 := 99) (i := 1) rfl (by decide +kernel) rfl <|
  WP.aload_n (pc2 := 100) (i := 0) rfl (by decide +kernel) rfl <|
  WP.getI (pc2 := 103) rfl (by decide +kernel) zc_10 zSh_30 (by decide) rfl lf_X10_31 rfl rfl <|
  WP.iadd (pc2 := 104) rfl (by decide +kernel) f9.1 <|
  WP.goto (off := 4) (tgt := 108) (by decide +kernel) (by decide) <|
  WP.iret (by decide +kernel) rfl (fun hx => ⟨_, rfl, hx, rfl, rfl, f9.2⟩))⟩
  · exact ⟨_, 109, by rw [h10]; rfl, by decide, have f31 := f25.2.2.2.2 h10
    WP.iload_n (pc2 := 110) (i := 3) rfl (by decide +kernel) rfl <|
  WP.if_le (pc2 := 113) (off := 9) (tgt := 119) rfl (by decide +kernel) (by decide) (fun _ =>
  WP.iconst (pc2 := 120) (x := -1) rfl (by decide +kernel) (by decide) <|
  WP.iret (by decide +kernel) rfl (fun hx => ⟨_, rfl, hx, rfl, rfl, f31⟩)) (fun h => absurd h (by decide))⟩
  )) (fun h24 => have f26 := F.2 h24
  WP.iload_n (pc2 := 8) (i := 1) rfl (by decide +kernel) rfl <|
  WP.aload_n (pc2 := 9) (i := 0) rfl (by decide +kernel) rfl <|
  WP.getI (pc2 := 12) rfl (by decide +kernel) zc_10 zSh_30 (by decide) rfl lf_X10_31 rfl rfl <|
  WP.irem (pc2 := 13) rfl (by decide +kernel) f26.1.1 f26.1.2 <|
  WP.goto (off := 4) (tgt := 17) (by decide +kernel) (by decide) <|
  WP.istore_n (pc2 := 18) (i := 3) rfl (by decide +kernel) (by decide) <|
  WP.iload_n (pc2 := 19) (i := 2) rfl (by decide +kernel) rfl <|
  WP.tsw (dflt := 102) (lo := 0) (hi' := 3) (offs := #[29, 48, 66, 90]) (len := 29) (by decide +kernel) (fun h23 => ⟨121, by decide, have f32 := f26.2.1 h23
  WP.iconst (pc2 := 122) (x := -1) rfl (by decide +kernel) (by decide) <|
  WP.iret (by decide +kernel) rfl (fun hx => ⟨_, rfl, hx, rfl, rfl, f32⟩)⟩) (fun h1 h2 => by
  rcases (show l2 = 0 ∨ l2 = 1 ∨ l2 = 2 ∨ l2 = 3 by omega) with h23 | h23 | h23 | h23
  · exact ⟨_, 48, by rw [h23]; rfl, by decide, have f33 := f26.2.2.1 h23
    WP.iload_n (pc2 := 49) (i := 1) rfl (by decide +kernel) rfl <|
  WP.aload_n (pc2 := 50) (i := 0) rfl (by decide +kernel) rfl <|
  WP.getI (pc2 := 53) rfl (by decide +kernel) zc_10 zSh_30 (by decide) rfl lf_X10_31 rfl rfl <|
  WP.icmp_lt (pc2 := 56) (off := 12) (tgt := 65) rfl (by decide +kernel) (by decide) (fun h11 => have f12 := f33.1 h11
  WP.iconst (pc2 := 66) (x := -1) rfl (by decide +kernel) (by decide) <|
  WP.iret (by decide +kernel) rfl (fun hx => ⟨_, rfl, hx, rfl, rfl, f12⟩)) (fun h11 => have f13 := f33.2 h11
  WP.iload_n (pc2 := 57) (i := 1) rfl (by decide +kernel) rfl <|
  WP.aload_n (pc2 := 58) (i := 0) rfl (by decide +kernel) rfl <|
  WP.getI (pc2 := 61) rfl (by decide +kernel) zc_10 zSh_30 (by decide) rfl lf_X10_31 rfl rfl <|
  WP.isub (pc2 := 62) rfl (by decide +kernel) f13.1 <|
  WP.goto (off := 4) (tgt := 66) (by decide +kernel) (by decide) <|
  WP.iret (by decide +kernel) rfl (fun hx => ⟨_, rfl, hx, rfl, rfl, f13.2⟩))⟩
  · exact ⟨_, 67, by rw [h23]; rfl, by decide, have f34 := f26.2.2.2.1 h23
    WP.iload_n (pc2 := 68) (i := 3) rfl (by decide +kernel) rfl <|
  WP.iconst (pc2 := 69) (x := 1) rfl (by decide +kernel) (by decide) <|
  WP.iadd (pc2 := 70) rfl (by decide +kernel) f34.1 <|
  WP.aload_n (pc2 := 71) (i := 0) rfl (by decide +kernel) rfl <|
  WP.getI (pc2 := 74) rfl (by decide +kernel) zc_10 zSh_30 (by decide) rfl lf_X10_31 rfl rfl <|
  WP.icmp_ge (pc2 := 77) (off := 9) (tgt := 83) rfl (by decide +kernel) (by decide) (fun h14 => have f15 := f34.2.1 h14
  WP.iconst (pc2 := 84) (x := -1) rfl (by decide +kernel) (by decide) <|
  WP.iret (by decide +kernel) rfl (fun hx => ⟨_, rfl, hx, rfl, rfl, f15⟩)) (fun h14 => have f16 := f34.2.2 h14
  WP.iload_n (pc2 := 78) (i := 1) rfl (by decide +kernel) rfl <|
  WP.iconst (pc2 := 79) (x := 1) rfl (by decide +kernel) (by decide) <|
  WP.iadd (pc2 := 80) rfl (by decide +kernel) f16.1 <|
  WP.goto (off := 4) (tgt := 84) (by decide +kernel) (by decide) <|
  WP.iret (by decide +kernel) rfl (fun hx => ⟨_, rfl, hx, rfl, rfl, f16.2⟩))⟩
  · exact ⟨_, 85, by rw [h23]; rfl, by decide, have f35 := f26.2.2.2.2.1 h23
    WP.iload_n (pc2 := 86) (i := 1) rfl (by decide +kernel) rfl <|
  WP.aload_n (pc2 := 87) (i := 0) rfl (by decide +kernel) rfl <|
  WP.getI (pc2 := 90) rfl (by decide +kernel) zc_10 zSh_30 (by decide) rfl lf_X10_31 rfl rfl <|
  WP.iadd (pc2 := 91) rfl (by decide +kernel) f35.1 <|
  WP.aload_n (pc2 := 92) (i := 0) rfl (by decide +kernel) rfl <|
  WP.getI (pc2 := 95) rfl (by decide +kernel) zc_10 zSh_30 (by decide) rfl lf_X10_27 rfl rfl <|
  WP.icmp_ge (pc2 := 98) (off := 12) (tgt := 107) rfl (by decide +kernel) (by decide) (fun h17 => have f18 := f35.2.1 h17
  WP.iconst (pc2 := 108) (x := -1) rfl (by decide +kernel) (by decide) <|
  WP.iret (by decide +kernel) rfl (fun hx => ⟨_, rfl, hx, rfl, rfl, f18⟩)) (fun h17 => have f19 := f35.2.2 h17
  WP.iload_n (pc2 := 99) (i := 1) rfl (by decide +kernel) rfl <|
  WP.aload_n (pc2 := 100) (i := 0) rfl (by decide +kernel) rfl <|
  WP.getI (pc2 := 103) rfl (by decide +kernel) zc_10 zSh_30 (by decide) rfl lf_X10_31 rfl rfl <|
  WP.iadd (pc2 := 104) rfl (by decide +kernel) f19.1 <|
  WP.goto (off := 4) (tgt := 108) (by decide +kernel) (by decide) <|
  WP.iret (by decide +kernel) rfl (fun hx => ⟨_, rfl, hx, rfl, rfl, f19.2⟩))⟩
  · exact ⟨_, 109, by rw [h23]; rfl, by decide, have f36 := f26.2.2.2.2.2 h23
    WP.iload_n (pc2 := 110) (i := 3) rfl (by decide +kernel) rfl <|
  WP.if_le (pc2 := 113) (off := 9) (tgt := 119) rfl (by decide +kernel) (by decide) (fun h20 => have f21 := f36.1 h20
  WP.iconst (pc2 := 120) (x := -1) rfl (by decide +kernel) (by decide) <|
  WP.iret (by decide +kernel) rfl (fun hx => ⟨_, rfl, hx, rfl, rfl, f21⟩)) (fun h20 => have f22 := f36.2 h20
  WP.iload_n (pc2 := 114) (i := 1) rfl (by decide +kernel) rfl <|
  WP.iconst (pc2 := 115) (x := 1) rfl (by decide +kernel) (by decide) <|
  WP.isub (pc2 := 116) rfl (by decide +kernel) f22.1 <|
  WP.goto (off := 4) (tgt := 120) (by decide +kernel) (by decide) <|
  WP.iret (by decide +kernel) rfl (fun hx => ⟨_, rfl, hx, rfl, rfl, f22.2⟩))⟩
  )))
set_option maxRecDepth 100000 in
set_option maxHeartbeats 4000000 in
theorem GX10_neighbour {hi : zI} {hr : zR} {P : Int → Prop} (hR : RSc hr) (j : Int) (l1 : Int) (l2 : Int) (hj : 0 ≤ j ∧ j < 2)
    (F : W0i mX10_hasCell [.inr (some (30, j)), .inl l1] hi hr (fun (x1 : Int) => (x1 = 0 → (P (-1))) ∧ (x1 ≠ 0 → ((l2 < 0 → (P (-1))) ∧ (0 ≤ l2 → ((4 ≤ l2 → (P (-1))) ∧ (l2 < 4 → ((zInR (l1 * 4)) ∧ ((zInR ((l1 * 4) + l2)) ∧ ((0 ≤ (l1 * 4) + l2 ∧ (l1 * 4) + l2 < 1024) ∧ (P (hi 33 j ((l1 * 4) + l2))))))))))))) :
    W0i mX10_neighbour [.inr (some (30, j)), .inl l1, .inl l2] hi hr P :=
  WPm.of rfl (show WP mX10_neighbour 0 [some (.inr (some (30, j))), some (.inl l1), some (.inl l2), none] [] hi hr (zQ0i hi hr P) from
  WP.aload_n (pc2 := 1) (i := 0) rfl (by decide +kernel) rfl <|
  WP.iload_n (pc2 := 2) (i := 1) rfl (by decide +kernel) rfl <|
  WP.callV (y := mX10_neighbour) (index := 46) (pc2 := 5) (y' := mX10_hasCell) (vs := [.inl l1]) rfl (by decide +kernel) okX10_hasCell ⟨by decide, by decide⟩ ⟨lm_X10_46, ivX10_hasCell⟩ zSh_30 zc_10 (Nat.le_of_ble_eq_true rfl) ⟨rfl, rfl⟩ rfl (WP.c0i F (fun x1 _ f11 =>
  WP.if_eq (pc2 := 8) (off := 16) (tgt := 21) rfl (by decide +kernel) (by decide) (fun h8 => have f9 := f11.1 h8
  WP.iconst (pc2 := 22) (x := 0) rfl (by decide +kernel) (by decide) <|
  WP.istore_n (pc2 := 23) (i := 3) rfl (by decide +kernel) (by decide) <|
  WP.iload_n (pc2 := 24) (i := 3) rfl (by decide +kernel) rfl <|
  WP.if_eq (pc2 := 27) (off := 16) (tgt := 40) rfl (by decide +kernel) (by decide) (fun _ =>
  WP.iconst (pc2 := 41) (x := -1) rfl (by decide +kernel) (by decide) <|
  WP.iret (by decide +kernel) rfl (fun hx => ⟨_, rfl, hx, rfl, rfl, f9⟩)) (fun h => absurd h (by decide))) (fun h8 => have f10 := f11.2 h8
  WP.iload_n (pc2 := 9) (i := 2) rfl (by decide +kernel) rfl <|
  WP.if_lt (pc2 := 12) (off := 12) (tgt := 21) rfl (by decide +kernel) (by decide) (fun h5 => have f6 := f10.1 h5
  WP.iconst (pc2 := 22) (x := 0) rfl (by decide +kernel) (by decide) <|
  WP.istore_n (pc2 := 23) (i := 3) rfl (by decide +kernel) (by decide) <|
  WP.iload_n (pc2 := 24) (i := 3) rfl (by decide +kernel) rfl <|
  WP.if_eq (pc2 := 27) (off := 16) (tgt := 40) rfl (by decide +kernel) (by decide) (fun _ =>
  WP.iconst (pc2 := 41) (x := -1) rfl (by decide +kernel) (by decide) <|
  WP.iret (by decide +kernel) rfl (fun hx => ⟨_, rfl, hx, rfl, rfl, f6⟩)) (fun h => absurd h (by decide))) (fun h5 => have f7 := f10.2 h5
  WP.iload_n (pc2 := 13) (i := 2) rfl (by decide +kernel) rfl <|
  WP.iconst (pc2 := 14) (x := 4) rfl (by decide +kernel) (by decide) <|
  WP.icmp_ge (pc2 := 17) (off := 7) (tgt := 21) rfl (by decide +kernel) (by decide) (fun h2 => have f3 := f7.1 h2
  WP.iconst (pc2 := 22) (x := 0) rfl (by decide +kernel) (by decide) <|
  WP.istore_n (pc2 := 23) (i := 3) rfl (by decide +kernel) (by decide) <|
  WP.iload_n (pc2 := 24) (i := 3) rfl (by decide +kernel) rfl <|
  WP.if_eq (pc2 := 27) (off := 16) (tgt := 40) rfl (by decide +kernel) (by decide) (fun _ =>
  WP.iconst (pc2 := 41) (x := -1) rfl (by decide +kernel) (by decide) <|
  WP.iret (by decide +kernel) rfl (fun hx => ⟨_, rfl, hx, rfl, rfl, f3⟩)) (fun h => absurd h (by decide))) (fun h2 => have f4 := f7.2 h2
  WP.iconst (pc2 := 18) (x := 1) rfl (by decide +kernel) (by decide) <|
  WP.goto (off := 4) (tgt := 22) (by decide +kernel) (by decide) <|
  WP.istore_n (pc2 := 23) (i := 3) rfl (by decide +kernel) (by decide) <|
  WP.iload_n (pc2 := 24) (i := 3) rfl (by decide +kernel) rfl <|
  WP.if_eq (pc2 := 27) (off := 16) (tgt := 40) rfl (by decide +kernel) (by decide) (fun h => absurd h (by decide)) (fun _ =>
  WP.aload_n (pc2 := 28) (i := 0) rfl (by decide +kernel) rfl <|
  WP.getR (pc2 := 31) rfl (by decide +kernel) zc_10 zSh_30 (by decide) rfl lf_X10_18 rfl (rs_30_2 hR j hj) <|
  WP.iload_n (pc2 := 32) (i := 1) rfl (by decide +kernel) rfl <|
  WP.iconst (pc2 := 33) (x := 4) rfl (by decide +kernel) (by decide) <|
  WP.imul (pc2 := 34) rfl (by decide +kernel) f4.1 <|
  WP.iload_n (pc2 := 35) (i := 2) rfl (by decide +kernel) rfl <|
  WP.iadd (pc2 := 36) rfl (by decide +kernel) f4.2.1 <|
  WP.iaload (pc2 := 37) rfl (by decide +kernel) zSh_33 rfl f4.2.2.1 rfl <|
  WP.goto (off := 4) (tgt := 41) (by decide +kernel) (by decide) <|
  WP.iret (by decide +kernel) rfl (fun hx => ⟨_, rfl, hx, rfl, rfl, f4.2.2.2⟩))))))))
