set_option maxRecDepth 100000 in
set_option maxHeartbeats 4000000 in
theorem GX4_findTrip {hi : zI} {hr : zR} {P : Int → zI → zR → Prop} (hR : RSc hr) (j1 : Int) (l3 : Int) (l4 : Int) (l5 : Int) (l6 : Int) (hj1 : 0 ≤ j1 ∧ j1 < 2)
    (F : (hi 30 j1 6 ≤ 0 → P 0 hi hr) ∧ (0 < hi 30 j1 6 → ((l3 < 0 → P 0 hi hr) ∧ (0 ≤ l3 → ((l3 < 6 → ((0 ≤ hi 30 j1 5 ∧ 0 < hi 30 j1 6) ∧ (W0i mX10_parkingCell [.inr (some (30, j1)), .inl l3] (zup (zup (zup (zup (zup (zup hi 19 0 7 (hi 30 j1 6)) 19 0 8 (if (hi 30 j1 5) / (hi 30 j1 6) < 16 then (hi 30 j1 5) / (hi 30 j1 6) else 16)) 19 0 9 l3) 19 0 10 l6) 19 0 11 l4) 19 0 12 l5) (zupR (zupR hr 19 0 5 (some (30, j1))) 19 0 6 (some (18, 0))) (fun (x1 : Int) => W1v mX4_markGround [.inr (some (19, 0))] (zup (zup (zup (zup (zup (zup (zup hi 19 0 7 (hi 30 j1 6)) 19 0 8 (if (hi 30 j1 5) / (hi 30 j1 6) < 16 then (hi 30 j1 5) / (hi 30 j1 6) else 16)) 19 0 9 l3) 19 0 10 l6) 19 0 11 l4) 19 0 12 l5) 19 0 13 x1) (zupR (zupR hr 19 0 5 (some (30, j1))) 19 0 6 (some (18, 0))) (fun (hi2 : zI) => W2i mX4_spread [.inr (some (19, 0))] hi2 (zupR (zupR hr 19 0 5 (some (30, j1))) 19 0 6 (some (18, 0))) (fun (x3 : Int) (hi4 : zI) (hr5 : zR) => RSc hr5 ∧ ((x3 ≠ -1 → (W1v mX4_keepWhatLeadsHome [.inr (some (19, 0)), .inl x3] hi4 hr5 (fun (hi6 : zI) => (0 ≤ l3 ∧ l3 < 6) ∧ (W1v mX4_followFirst [.inr (some (19, 0)), .inl x3, .inr (some (25, l3))] hi6 hr5 (fun (hi8 : zI) => P 1 hi8 hr5))))) ∧ (x3 = -1 → P 0 hi4 hr5)))))))) ∧ (6 ≤ l3 → P 0 hi hr)))))) :
    W2i mX4_findTrip [.inr (some (19, 0)), .inr (some (30, j1)), .inr (some (18, 0)), .inl l3, .inl l4, .inl l5, .inl l6] hi hr P :=
  WPm.of rfl (show WP mX4_findTrip 0 [some (.inr (some (19, 0))), some (.inr (some (30, j1))), some (.inr (some (18, 0))), some (.inl l3), some (.inl l4), some (.inl l5), some (.inl l6), none] [] hi hr (zQ2i P) from
  WP.aload_n (pc2 := 1) (i := 1) rfl (by decide +kernel) rfl <|
  WP.ifnull (pc2 := 4) (off := 24) (tgt := 25) rfl (by decide +kernel) (by decide) (fun h => by cases h) (fun _ _ =>
  WP.aload_n (pc2 := 5) (i := 1) rfl (by decide +kernel) rfl <|
  WP.getI (pc2 := 8) rfl (by decide +kernel) zc_10 zSh_30 (by decide) rfl lf_X4_31 rfl rfl <|
  WP.if_le (pc2 := 11) (off := 17) (tgt := 25) rfl (by decide +kernel) (by decide) (fun h23 => have f24 := F.1 h23
  WP.iconst (pc2 := 26) (x := 0) rfl (by decide +kernel) (by decide) <|
  WP.zret (by decide +kernel) rfl (by decide) (fun hx => ⟨_, rfl, hx, trivial, f24⟩)) (fun h23 => have f25 := F.2 h23
  WP.aload_n (pc2 := 12) (i := 2) rfl (by decide +kernel) rfl <|
  WP.ifnull (pc2 := 15) (off := 13) (tgt := 25) rfl (by decide +kernel) (by decide) (fun h => by cases h) (fun _ _ =>
  WP.iload_n (pc2 := 16) (i := 3) rfl (by decide +kernel) rfl <|
  WP.if_lt (pc2 := 19) (off := 9) (tgt := 25) rfl (by decide +kernel) (by decide) (fun h20 => have f21 := f25.1 h20
  WP.iconst (pc2 := 26) (x := 0) rfl (by decide +kernel) (by decide) <|
  WP.zret (by decide +kernel) rfl (by decide) (fun hx => ⟨_, rfl, hx, trivial, f21⟩)) (fun h20 => have f22 := f25.2 h20
  WP.iload_n (pc2 := 20) (i := 3) rfl (by decide +kernel) rfl <|
  WP.aload_n (pc2 := 21) (i := 2) rfl (by decide +kernel) rfl <|
  WP.alen (pc2 := 22) rfl (by decide +kernel) zSh_18 (by decide) (by decide) rfl <|
  WP.icmp_lt (pc2 := 25) (off := 5) (tgt := 27) rfl (by decide +kernel) (by decide) (fun h17 => have f18 := f22.1 h17
  WP.aload_n (pc2 := 28) (i := 0) rfl (by decide +kernel) rfl <|
  WP.aload_n (pc2 := 29) (i := 1) rfl (by decide +kernel) rfl <|
  WP.putR (pc2 := 32) rfl (by decide +kernel) zc_4 zSh_19 (by decide) rfl lf_X4_34 rfl (Or.inl ⟨_, rfl⟩) rfl <|
  WP.aload_n (pc2 := 33) (i := 0) rfl (by decide +kernel) rfl <|
  WP.aload_n (pc2 := 34) (i := 2) rfl (by decide +kernel) rfl <|
  WP.putR (pc2 := 37) rfl (by decide +kernel) zc_4 zSh_19 (by decide) rfl lf_X4_38 rfl (Or.inr ⟨_, rfl⟩) rfl <|
  WP.aload_n (pc2 := 38) (i := 0) rfl (by decide +kernel) rfl <|
  WP.aload_n (pc2 := 39) (i := 1) rfl (by decide +kernel) rfl <|
  WP.getI (pc2 := 42) rfl (by decide +kernel) zc_10 zSh_30 (by decide) rfl lf_X4_31 rfl rfl <|
  WP.putI (pc2 := 45) rfl (by decide +kernel) zc_4 zSh_19 (by decide) rfl lf_X4_27 rfl (z_int _) rfl <|
  WP.aload_n (pc2 := 46) (i := 0) rfl (by decide +kernel) rfl <|
  WP.bipush (pc2 := 48) (x := 16) rfl (by decide +kernel) ⟨by decide +kernel, by decide⟩ <|
  WP.aload_n (pc2 := 49) (i := 1) rfl (by decide +kernel) rfl <|
  WP.getI (pc2 := 52) rfl (by decide +kernel) zc_10 zSh_30 (by decide) rfl lf_X4_42 rfl (zup_k _ _ _ _ _ _ (by decide)) <|
  WP.aload_n (pc2 := 53) (i := 0) rfl (by decide +kernel) rfl <|
  WP.getI (pc2 := 56) rfl (by decide +kernel) zc_4 zSh_19 (by decide) rfl lf_X4_27 rfl (zup_s _ _ _ _ _) <|
  WP.idiv (pc2 := 57) rfl (by decide +kernel) f18.1.1 f18.1.2 <|
  WP.mmin (pc2 := 60) rfl (by decide +kernel) lm_X4_45 (by decide) (Nat.le_of_ble_eq_true rfl) <|
  WP.putI (pc2 := 63) rfl (by decide +kernel) zc_4 zSh_19 (by decide) rfl lf_X4_51 rfl (z_int _) rfl <|
  WP.aload_n (pc2 := 64) (i := 0) rfl (by decide +kernel) rfl <|
  WP.iload_n (pc2 := 65) (i := 3) rfl (by decide +kernel) rfl <|
  WP.putI (pc2 := 68) rfl (by decide +kernel) zc_4 zSh_19 (by decide) rfl lf_X4_54 rfl (z_int _) rfl <|
  WP.aload_n (pc2 := 69) (i := 0) rfl (by decide +kernel) rfl <|
  WP.iload (pc2 := 71) (i := 6) rfl (by decide +kernel) rfl <|
  WP.putI (pc2 := 74) rfl (by decide +kernel) zc_4 zSh_19 (by decide) rfl lf_X4_57 rfl (z_int _) rfl <|
  WP.aload_n (pc2 := 75) (i := 0) rfl (by decide +kernel) rfl <|
  WP.iload (pc2 := 77) (i := 4) rfl (by decide +kernel) rfl <|
  WP.putI (pc2 := 80) rfl (by decide +kernel) zc_4 zSh_19 (by decide) rfl lf_X4_60 rfl (z_int _) rfl <|
  WP.aload_n (pc2 := 81) (i := 0) rfl (by decide +kernel) rfl <|
  WP.iload (pc2 := 83) (i := 5) rfl (by decide +kernel) rfl <|
  WP.putI (pc2 := 86) rfl (by decide +kernel) zc_4 zSh_19 (by decide) rfl lf_X4_63 rfl (z_int _) rfl <|
  WP.aload_n (pc2 := 87) (i := 0) rfl (by decide +kernel) rfl <|
  WP.aload_n (pc2 := 88) (i := 1) rfl (by decide +kernel) rfl <|
  WP.iload_n (pc2 := 89) (i := 3) rfl (by decide +kernel) rfl <|
  WP.callV (y := mX4_findTrip) (index := 66) (pc2 := 92) (y' := mX10_parkingCell) (vs := [.inl l3]) rfl (by decide +kernel) okX10_parkingCell ⟨by decide, by decide⟩ ⟨lm_X4_66, ivX10_parkingCell⟩ zSh_30 zc_10 (Nat.le_of_ble_eq_true rfl) ⟨rfl, rfl⟩ rfl (WP.c0i f18.2 (fun x1 _ f16 =>
  WP.putI (pc2 := 95) rfl (by decide +kernel) zc_4 zSh_19 (by decide) rfl lf_X4_70 rfl (z_int _) rfl <|
  WP.aload_n (pc2 := 96) (i := 0) rfl (by decide +kernel) rfl <|
  WP.callV (y := mX4_findTrip) (index := 73) (pc2 := 99) (y' := mX4_markGround) (vs := []) rfl (by decide +kernel) okX4_markGround ⟨by decide, by decide⟩ ⟨lm_X4_73, ivX4_markGround⟩ zSh_19 zc_4 (Nat.le_of_ble_eq_true rfl) ⟨rfl, rfl⟩ rfl (WP.c1v f16 (fun hi2 f15 =>
  WP.aload_n (pc2 := 100) (i := 0) rfl (by decide +kernel) rfl <|
  WP.callV (y := mX4_findTrip) (index := 76) (pc2 := 103) (y' := mX4_spread) (vs := []) rfl (by decide +kernel) okX4_spread ⟨by decide, by decide⟩ ⟨lm_X4_76, ivX4_spread⟩ zSh_19 zc_4 (Nat.le_of_ble_eq_true rfl) ⟨rfl, rfl⟩ rfl (WP.c2i f15 (fun x3 hi4 hr5 _ f14 =>
  have hRxhr5 := f14.1
  WP.istore (pc2 := 105) (i := 7) rfl (by decide +kernel) (by decide) <|
  WP.iload (pc2 := 107) (i := 7) rfl (by decide +kernel) rfl <|
  WP.iconst (pc2 := 108) (x := -1) rfl (by decide +kernel) (by decide) <|
  WP.icmp_ne (pc2 := 111) (off := 5) (tgt := 113) rfl (by decide +kernel) (by decide) (fun h11 => have f12 := f14.2.1 h11
  WP.aload_n (pc2 := 114) (i := 0) rfl (by decide +kernel) rfl <|
  WP.iload (pc2 := 116) (i := 7) rfl (by decide +kernel) rfl <|
  WP.callV (y := mX4_findTrip) (index := 80) (pc2 := 119) (y' := mX4_keepWhatLeadsHome) (vs := [.inl x3]) rfl (by decide +kernel) okX4_keepWhatLeadsHome ⟨by decide, by decide⟩ ⟨lm_X4_80, ivX4_keepWhatLeadsHome⟩ zSh_19 zc_4 (Nat.le_of_ble_eq_true rfl) ⟨rfl, rfl⟩ rfl (WP.c1v f12 (fun hi6 f10 =>
  WP.aload_n (pc2 := 120) (i := 0) rfl (by decide +kernel) rfl <|
  WP.iload (pc2 := 122) (i := 7) rfl (by decide +kernel) rfl <|
  WP.aload_n (pc2 := 123) (i := 2) rfl (by decide +kernel) rfl <|
  WP.iload_n (pc2 := 124) (i := 3) rfl (by decide +kernel) rfl <|
  WP.aaload (pc2 := 125) rfl (by decide +kernel) zSh_18 (by decide) rfl f10.1 (rs_18_e hRxhr5 l3 f10.1) <|
  WP.getR (pc2 := 128) rfl (by decide +kernel) zc_0 zSh_24 (by decide) rfl lf_X4_84 rfl (rs_24_0 hRxhr5 l3 (f10.1)) <|
  WP.callV (y := mX4_findTrip) (index := 90) (pc2 := 131) (y' := mX4_followFirst) (vs := [.inl x3, .inr (some (25, l3))]) rfl (by decide +kernel) okX4_followFirst ⟨by decide, by decide⟩ ⟨lm_X4_90, ivX4_followFirst⟩ zSh_19 zc_4 (Nat.le_of_ble_eq_true rfl) ⟨rfl, rfl⟩ rfl (WP.c1v f10.2 (fun hi8 f9 =>
  WP.iconst (pc2 := 132) (x := 1) rfl (by decide +kernel) (by decide) <|
  WP.zret (by decide +kernel) rfl (by decide) (fun hx => ⟨_, rfl, hx, trivial, f9⟩)))))) (fun h11 => have f13 := f14.2.2 h11
  WP.iconst (pc2 := 112) (x := 0) rfl (by decide +kernel) (by decide) <|
  WP.zret (by decide +kernel) rfl (by decide) (fun hx => ⟨_, rfl, hx, trivial, f13⟩))))))))) (fun h17 => have f19 := f22.2 h17
  WP.iconst (pc2 := 26) (x := 0) rfl (by decide +kernel) (by decide) <|
  WP.zret (by decide +kernel) rfl (by decide) (fun hx => ⟨_, rfl, hx, trivial, f19⟩)))))))
set_option maxRecDepth 100000 in
set_option maxHeartbeats 4000000 in
theorem GX4_markGround {hi : zI} {hr : zR} {P : zI → Prop} (hR : RSc hr)  
    (F : W1v mJ7_fill_53178 [.inr (some (21, 0)), .inl 0] hi hr (fun (hi1 : zI) => WP mX4_markGround 10 [some (.inr (some (19, 0))), some (.inl 0)] [] hi1 hr (zQ1v hr P))) :
    W1v mX4_markGround [.inr (some (19, 0))] hi hr P :=
  WPm.of rfl (show WP mX4_markGround 0 [some (.inr (some (19, 0))), none] [] hi hr (zQ1v hr P) from
  WP.aload_n (pc2 := 1) (i := 0) rfl (by decide +kernel) rfl <|
  WP.getR (pc2 := 4) rfl (by decide +kernel) zc_4 zSh_19 (by decide) rfl lf_X4_15 rfl (rs_19_1 hR) <|
  WP.iconst (pc2 := 5) (x := 0) rfl (by decide +kernel) (by decide) <|
  WP.callS (y := mX4_markGround) (index := 94) (pc2 := 8) (y' := mJ7_fill_53178) (vs := [.inr (some (21, 0)), .inl 0]) rfl (by decide +kernel) okJ7_fill_53178 ⟨by decide, by decide⟩ ⟨lm_X4_94, ivJ7_fill_53178⟩ (Nat.le_of_ble_eq_true rfl) ⟨rfl, rfl⟩ rfl (WP.c1v F (fun hi1 f2 =>
  WP.iconst (pc2 := 9) (x := 0) rfl (by decide +kernel) (by decide) <|
  WP.istore_n (pc2 := 10) (i := 1) rfl (by decide +kernel) (by decide) <|
  f2)))

set_option maxRecDepth 100000 in
set_option maxHeartbeats 4000000 in
theorem GX4_markGround_10 {hi : zI} {hr : zR} {P : zI → Prop} (hR : RSc hr) (a1 : Int) 
    (F : ∃ j3 : Int, hr 19 0 5 = some (30, j3) ∧ (0 ≤ j3 ∧ j3 < 2) ∧ ((hi 30 j3 5 ≤ a1 → (W1v mJ7_fill_53178 [.inr (some (22, 0)), .inl 0] hi hr (fun (hi5 : zI) => W0i mX4_rowOf [.inl 0, .inl 0] hi5 hr (fun (x6 : Int) => W1v mX4_mark [.inr (some (19, 0)), .inr (some (22, 0)), .inl x6, .inl (hi5 19 0 11)] hi5 hr (fun (hi7 : zI) => W0i mX4_rowOf [.inl 0, .inl 1] hi7 hr (fun (x8 : Int) => W1v mX4_mark [.inr (some (19, 0)), .inr (some (22, 0)), .inl x8, .inl (hi7 19 0 12)] hi7 hr (fun (hi9 : zI) => P hi9))))))) ∧ (a1 < hi 30 j3 5 → (W0i mX10_kindOf [.inr (some (30, j3)), .inl a1] hi hr (fun (x15 : Int) => (x15 = 1 → (W1v mX4_mark [.inr (some (19, 0)), .inr (some (21, 0)), .inl 0, .inl a1] hi hr (fun (hi16 : zI) => (zInR (a1 + 1)) ∧ (WP mX4_markGround 10 [some (.inr (some (19, 0))), some (.inl (a1 + 1))] [] hi16 hr (zQ1v hr P))))) ∧ (x15 ≠ 1 → ((a1 = hi 19 0 11 → (W1v mX4_mark [.inr (some (19, 0)), .inr (some (21, 0)), .inl 0, .inl a1] hi hr (fun (hi18 : zI) => (zInR (a1 + 1)) ∧ (WP mX4_markGround 10 [some (.inr (some (19, 0))), some (.inl (a1 + 1))] [] hi18 hr (zQ1v hr P))))) ∧ (a1 ≠ hi 19 0 11 → ((a1 = hi 19 0 12 → (W1v mX4_mark [.inr (some (19, 0)), .inr (some (21, 0)), .inl 0, .inl a1] hi hr (fun (hi20 : zI) => (zInR (a1 + 1)) ∧ (WP mX4_markGround 10 [some (.inr (some (19, 0))), some (.inl (a1 + 1))] [] hi20 hr (zQ1v hr P))))) ∧ (a1 ≠ hi 19 0 12 → ((a1 ≠ hi 19 0 13 → ((zInR (a1 + 1)) ∧ (WP mX4_markGround 10 [some (.inr (some (19, 0))), some (.inl (a1 + 1))] [] hi hr (zQ1v hr P)))) ∧ (a1 = hi 19 0 13 → (W1v mX4_mark [.inr (some (19, 0)), .inr (some (21, 0)), .inl 0, .inl a1] hi hr (fun (hi22 : zI) => (zInR (a1 + 1)) ∧ (WP mX4_markGround 10 [some (.inr (some (19, 0))), some (.inl (a1 + 1))] [] hi22 hr (zQ1v hr P)))))))))))))))) :
    WP mX4_markGround 10 [some (.inr (some (19, 0))), some (.inl a1)] [] hi hr (zQ1v hr P) :=
  WP.iload_n (pc2 := 11) (i := 1) rfl (by decide +kernel) rfl <|
  WP.aload_n (pc2 := 12) (i := 0) rfl (by decide +kernel) rfl <|
  Exists.elim F (fun j3 f40 => have e4 := f40.1; have e4r := f40.2.1
  WP.getR (pc2 := 15) rfl (by decide +kernel) zc_4 zSh_19 (by decide) rfl lf_X4_34 rfl e4 <|
  WP.getI (pc2 := 18) rfl (by decide +kernel) zc_10 zSh_30 (by decide) rfl lf_X4_42 rfl rfl <|
  WP.icmp_ge (pc2 := 21) (off := 55) (tgt := 73) rfl (by decide +kernel) (by decide) (fun h37 => have f38 := f40.2.2.1 h37
  WP.aload_n (pc2 := 74) (i := 0) rfl (by decide +kernel) rfl <|
  WP.getR (pc2 := 77) rfl (by decide +kernel) zc_4 zSh_19 (by decide) rfl lf_X4_18 rfl (rs_19_2 hR) <|
  WP.iconst (pc2 := 78) (x := 0) rfl (by decide +kernel) (by decide) <|
  WP.callS (y := mX4_markGround) (index := 94) (pc2 := 81) (y' := mJ7_fill_53178) (vs := [.inr (some (22, 0)), .inl 0]) rfl (by decide +kernel) okJ7_fill_53178 ⟨by decide, by decide⟩ ⟨lm_X4_94, ivJ7_fill_53178⟩ (Nat.le_of_ble_eq_true rfl) ⟨rfl, rfl⟩ rfl (WP.c1v f38 (fun hi5 f14 =>
  WP.aload_n (pc2 := 82) (i := 0) rfl (by decide +kernel) rfl <|
  WP.aload_n (pc2 := 83) (i := 0) rfl (by decide +kernel) rfl <|
  WP.getR (pc2 := 86) rfl (by decide +kernel) zc_4 zSh_19 (by decide) rfl lf_X4_18 rfl (rs_19_2 hR) <|
  WP.iconst (pc2 := 87) (x := 0) rfl (by decide +kernel) (by decide) <|
  WP.iconst (pc2 := 88) (x := 0) rfl (by decide +kernel) (by decide) <|
  WP.callS (y := mX4_markGround) (index := 107) (pc2 := 91) (y' := mX4_rowOf) (vs := [.inl 0, .inl 0]) rfl (by decide +kernel) okX4_rowOf ⟨by decide, by decide⟩ ⟨lm_X4_107, ivX4_rowOf⟩ (Nat.le_of_ble_eq_true rfl) ⟨rfl, rfl⟩ rfl (WP.c0i f14 (fun x6 _ f13 =>
  WP.aload_n (pc2 := 92) (i := 0) rfl (by decide +kernel) rfl <|
  WP.getI (pc2 := 95) rfl (by decide +kernel) zc_4 zSh_19 (by decide) rfl lf_X4_60 rfl rfl <|
  WP.callV (y := mX4_markGround) (index := 103) (pc2 := 98) (y' := mX4_mark) (vs := [.inr (some (22, 0)), .inl x6, .inl (hi5 19 0 11)]) rfl (by decide +kernel) okX4_mark ⟨by decide, by decide⟩ ⟨lm_X4_103, ivX4_mark⟩ zSh_19 zc_4 (Nat.le_of_ble_eq_true rfl) ⟨rfl, rfl⟩ rfl (WP.c1v f13 (fun hi7 f12 =>
  WP.aload_n (pc2 := 99) (i := 0) rfl (by decide +kernel) rfl <|
  WP.aload_n (pc2 := 100) (i := 0) rfl (by decide +kernel) rfl <|
  WP.getR (pc2 := 103) rfl (by decide +kernel) zc_4 zSh_19 (by decide) rfl lf_X4_18 rfl (rs_19_2 hR) <|
  WP.iconst (pc2 := 104) (x := 0) rfl (by decide +kernel) (by decide) <|
  WP.iconst (pc2 := 105) (x := 1) rfl (by decide +kernel) (by decide) <|
  WP.callS (y := mX4_markGround) (index := 107) (pc2 := 108) (y' := mX4_rowOf) (vs := [.inl 0, .inl 1]) rfl (by decide +kernel) okX4_rowOf ⟨by decide, by decide⟩ ⟨lm_X4_107, ivX4_rowOf⟩ (Nat.le_of_ble_eq_true rfl) ⟨rfl, rfl⟩ rfl (WP.c0i f12 (fun x8 _ f11 =>
  WP.aload_n (pc2 := 109) (i := 0) rfl (by decide +kernel) rfl <|
  WP.getI (pc2 := 112) rfl (by decide +kernel) zc_4 zSh_19 (by decide) rfl lf_X4_63 rfl rfl <|
  WP.callV (y := mX4_markGround) (index := 103) (pc2 := 115) (y' := mX4_mark) (vs := [.inr (some (22, 0)), .inl x8, .inl (hi7 19 0 12)]) rfl (by decide +kernel) okX4_mark ⟨by decide, by decide⟩ ⟨lm_X4_103, ivX4_mark⟩ zSh_19 zc_4 (Nat.le_of_ble_eq_true rfl) ⟨rfl, rfl⟩ rfl (WP.c1v f11 (fun hi9 f10 =>
  WP.vret (by decide +kernel) rfl ⟨rfl, rfl, f10⟩))))))))))) (fun h37 => have f39 := f40.2.2.2 h37
  WP.aload_n (pc2 := 22) (i := 0) rfl (by decide +kernel) rfl <|
  WP.getR (pc2 := 25) rfl (by decide +kernel) zc_4 zSh_19 (by decide) rfl lf_X4_34 rfl e4 <|
  WP.iload_n (pc2 := 26) (i := 1) rfl (by decide +kernel) rfl <|
  WP.callV (y := mX4_markGround) (index := 100) (pc2 := 29) (y' := mX10_kindOf) (vs := [.inl a1]) rfl (by decide +kernel) okX10_kindOf ⟨by decide, by decide⟩ ⟨lm_X4_100, ivX10_kindOf⟩ zSh_30 zc_10 (Nat.le_of_ble_eq_true rfl) ⟨rfl, rfl⟩ rfl (WP.c0i f39 (fun x15 _ f36 =>
  WP.iconst (pc2 := 30) (x := 1) rfl (by decide +kernel) (by decide) <|
  WP.icmp_eq (pc2 := 33) (off := 27) (tgt := 57) rfl (by decide +kernel) (by decide) (fun h33 => have f34 := f36.1 h33
  WP.aload_n (pc2 := 58) (i := 0) rfl (by decide +kernel) rfl <|
  WP.aload_n (pc2 := 59) (i := 0) rfl (by decide +kernel) rfl <|
  WP.getR (pc2 := 62) rfl (by decide +kernel) zc_4 zSh_19 (by decide) rfl lf_X4_15 rfl (rs_19_1 hR) <|
  WP.iconst (pc2 := 63) (x := 0) rfl (by decide +kernel) (by decide) <|
  WP.iload_n (pc2 := 64) (i := 1) rfl (by decide +kernel) rfl <|
  WP.callV (y := mX4_markGround) (index := 103) (pc2 := 67) (y' := mX4_mark) (vs := [.inr (some (21, 0)), .inl 0, .inl a1]) rfl (by decide +kernel) okX4_mark ⟨by decide, by decide⟩ ⟨lm_X4_103, ivX4_mark⟩ zSh_19 zc_4 (Nat.le_of_ble_eq_true rfl) ⟨rfl, rfl⟩ rfl (WP.c1v f34 (fun hi16 f17 =>
  WP.iinc (pc2 := 70) (i := 1) (d := 1) rfl (by decide +kernel) rfl f17.1 <|
  WP.goto (off := -60) (tgt := 10) (by decide +kernel) (by decide) <|
  f17.2))) (fun h33 => have f35 := f36.2 h33
  WP.iload_n (pc2 := 34) (i := 1) rfl (by decide +kernel) rfl <|
  WP.aload_n (pc2 := 35) (i := 0) rfl (by decide +kernel) rfl <|
  WP.getI (pc2 := 38) rfl (by decide +kernel) zc_4 zSh_19 (by decide) rfl lf_X4_60 rfl rfl <|
  WP.icmp_eq (pc2 := 41) (off := 19) (tgt := 57) rfl (by decide +kernel) (by decide) (fun h30 => have f31 := f35.1 h30
  WP.aload_n (pc2 := 58) (i := 0) rfl (by decide +kernel) rfl <|
  WP.aload_n (pc2 := 59) (i := 0) rfl (by decide +kernel) rfl <|
  WP.getR (pc2 := 62) rfl (by decide +kernel) zc_4 zSh_19 (by decide) rfl lf_X4_15 rfl (rs_19_1 hR) <|
  WP.iconst (pc2 := 63) (x := 0) rfl (by decide +kernel) (by decide) <|
  WP.iload_n (pc2 := 64) (i := 1) rfl (by decide +kernel) rfl <|
  WP.callV (y := mX4_markGround) (index := 103) (pc2 := 67) (y' := mX4_mark) (vs := [.inr (some (21, 0)), .inl 0, .inl a1]) rfl (by decide +kernel) okX4_mark ⟨by decide, by decide⟩ ⟨lm_X4_103, ivX4_mark⟩ zSh_19 zc_4 (Nat.le_of_ble_eq_true rfl) ⟨rfl, rfl⟩ rfl (WP.c1v f31 (fun hi18 f19 =>
  WP.iinc (pc2 := 70) (i := 1) (d := 1) rfl (by decide +kernel) rfl f19.1 <|
  WP.goto (off := -60) (tgt := 10) (by decide +kernel) (by decide) <|
  f19.2))) (fun h30 => have f32 := f35.2 h30
  WP.iload_n (pc2 := 42) (i := 1) rfl (by decide +kernel) rfl <|
  WP.aload_n (pc2 := 43) (i := 0) rfl (by decide +kernel) rfl <|
  WP.getI (pc2 := 46) rfl (by decide +kernel) zc_4 zSh_19 (by decide) rfl lf_X4_63 rfl rfl <|
  WP.icmp_eq (pc2 := 49) (off := 11) (tgt := 57) rfl (by decide +kernel) (by decide) (fun h27 => have f28 := f32.1 h27
  WP.aload_n (pc2 := 58) (i := 0) rfl (by decide +kernel) rfl <|
  WP.aload_n (pc2 := 59) (i := 0) rfl (by decide +kernel) rfl <|
  WP.getR (pc2 := 62) rfl (by decide +kernel) zc_4 zSh_19 (by decide) rfl lf_X4_15 rfl (rs_19_1 hR) <|
  WP.iconst (pc2 := 63) (x := 0) rfl (by decide +kernel) (by decide) <|
  WP.iload_n (pc2 := 64) (i := 1) rfl (by decide +kernel) rfl <|
  WP.callV (y := mX4_markGround) (index := 103) (pc2 := 67) (y' := mX4_mark) (vs := [.inr (some (21, 0)), .inl 0, .inl a1]) rfl (by decide +kernel) okX4_mark ⟨by decide, by decide⟩ ⟨lm_X4_103, ivX4_mark⟩ zSh_19 zc_4 (Nat.le_of_ble_eq_true rfl) ⟨rfl, rfl⟩ rfl (WP.c1v f28 (fun hi20 f21 =>
  WP.iinc (pc2 := 70) (i := 1) (d := 1) rfl (by decide +kernel) rfl f21.1 <|
  WP.goto (off := -60) (tgt := 10) (by decide +kernel) (by decide) <|
  f21.2))) (fun h27 => have f29 := f32.2 h27
  WP.iload_n (pc2 := 50) (i := 1) rfl (by decide +kernel) rfl <|
  WP.aload_n (pc2 := 51) (i := 0) rfl (by decide +kernel) rfl <|
  WP.getI (pc2 := 54) rfl (by decide +kernel) zc_4 zSh_19 (by decide) rfl lf_X4_70 rfl rfl <|
  WP.icmp_ne (pc2 := 57) (off := 13) (tgt := 67) rfl (by decide +kernel) (by decide) (fun h24 => have f25 := f29.1 h24
  WP.iinc (pc2 := 70) (i := 1) (d := 1) rfl (by decide +kernel) rfl f25.1 <|
  WP.goto (off := -60) (tgt := 10) (by decide +kernel) (by decide) <|
  f25.2) (fun h24 => have f26 := f29.2 h24
  WP.aload_n (pc2 := 58) (i := 0) rfl (by decide +kernel) rfl <|
  WP.aload_n (pc2 := 59) (i := 0) rfl (by decide +kernel) rfl <|
  WP.getR (pc2 := 62) rfl (by decide +kernel) zc_4 zSh_19 (by decide) rfl lf_X4_15 rfl (rs_19_1 hR) <|
  WP.iconst (pc2 := 63) (x := 0) rfl (by decide +kernel) (by decide) <|
  WP.iload_n (pc2 := 64) (i := 1) rfl (by decide +kernel) rfl <|
  WP.callV (y := mX4_markGround) (index := 103) (pc2 := 67) (y' := mX4_mark) (vs := [.inr (some (21, 0)), .inl 0, .inl a1]) rfl (by decide +kernel) okX4_mark ⟨by decide, by decide⟩ ⟨lm_X4_103, ivX4_mark⟩ zSh_19 zc_4 (Nat.le_of_ble_eq_true rfl) ⟨rfl, rfl⟩ rfl (WP.c1v f26 (fun hi22 f23 =>
  WP.iinc (pc2 := 70) (i := 1) (d := 1) rfl (by decide +kernel) rfl f23.1 <|
  WP.goto (off := -60) (tgt := 10) (by decide +kernel) (by decide) <|
  f23.2))))))))))
set_option maxRecDepth 100000 in
set_option maxHeartbeats 4000000 in
theorem GX4_spread {hi : zI} {hr : zR} {P : Int → zI → zR → Prop} (hR : RSc hr)  
    (F : W1v mX4_clearLayer [.inr (some (19, 0)), .inl 0] hi hr (fun (hi1 : zI) => W0i mX4_rowOf [.inl 0, .inl 0] hi1 hr (fun (x2 : Int) => W1v mX4_mark [.inr (some (19, 0)), .inr (some (20, 0)), .inl x2, .inl (hi1 19 0 13)] hi1 hr (fun (hi3 : zI) => W1v mX4_markHeld [.inr (some (19, 0)), .inl (hi3 19 0 10)] hi3 hr (fun (hi4 : zI) => WP mX4_spread 32 [some (.inr (some (19, 0))), some (.inl 0), none, none] [] hi4 hr (zQ2i P)))))) :
    W2i mX4_spread [.inr (some (19, 0))] hi hr P :=
  WPm.of rfl (show WP mX4_spread 0 [some (.inr (some (19, 0))), none, none, none] [] hi hr (zQ2i P) from
  WP.aload_n (pc2 := 1) (i := 0) rfl (by decide +kernel) rfl <|
  WP.iconst (pc2 := 2) (x := 0) rfl (by decide +kernel) (by decide) <|
  WP.callV (y := mX4_spread) (index := 110) (pc2 := 5) (y' := mX4_clearLayer) (vs := [.inl 0]) rfl (by decide +kernel) okX4_clearLayer ⟨by decide, by decide⟩ ⟨lm_X4_110, ivX4_clearLayer⟩ zSh_19 zc_4 (Nat.le_of_ble_eq_true rfl) ⟨rfl, rfl⟩ rfl (WP.c1v F (fun hi1 f8 =>
  WP.aload_n (pc2 := 6) (i := 0) rfl (by decide +kernel) rfl <|
  WP.aload_n (pc2 := 7) (i := 0) rfl (by decide +kernel) rfl <|
  WP.getR (pc2 := 10) rfl (by decide +kernel) zc_4 zSh_19 (by decide) rfl lf_X4_11 rfl (rs_19_0 hR) <|
  WP.iconst (pc2 := 11) (x := 0) rfl (by decide +kernel) (by decide) <|
  WP.iconst (pc2 := 12) (x := 0) rfl (by decide +kernel) (by decide) <|
  WP.callS (y := mX4_spread) (index := 107) (pc2 := 15) (y' := mX4_rowOf) (vs := [.inl 0, .inl 0]) rfl (by decide +kernel) okX4_rowOf ⟨by decide, by decide⟩ ⟨lm_X4_107, ivX4_rowOf⟩ (Nat.le_of_ble_eq_true rfl) ⟨rfl, rfl⟩ rfl (WP.c0i f8 (fun x2 _ f7 =>
  WP.aload_n (pc2 := 16) (i := 0) rfl (by decide +kernel) rfl <|
  WP.getI (pc2 := 19) rfl (by decide +kernel) zc_4 zSh_19 (by decide) rfl lf_X4_70 rfl rfl <|
  WP.callV (y := mX4_spread) (index := 103) (pc2 := 22) (y' := mX4_mark) (vs := [.inr (some (20, 0)), .inl x2, .inl (hi1 19 0 13)]) rfl (by decide +kernel) okX4_mark ⟨by decide, by decide⟩ ⟨lm_X4_103, ivX4_mark⟩ zSh_19 zc_4 (Nat.le_of_ble_eq_true rfl) ⟨rfl, rfl⟩ rfl (WP.c1v f7 (fun hi3 f6 =>
  WP.aload_n (pc2 := 23) (i := 0) rfl (by decide +kernel) rfl <|
  WP.aload_n (pc2 := 24) (i := 0) rfl (by decide +kernel) rfl <|
  WP.getI (pc2 := 27) rfl (by decide +kernel) zc_4 zSh_19 (by decide) rfl lf_X4_57 rfl rfl <|
  WP.callV (y := mX4_spread) (index := 113) (pc2 := 30) (y' := mX4_markHeld) (vs := [.inl (hi3 19 0 10)]) rfl (by decide +kernel) okX4_markHeld ⟨by decide, by decide⟩ ⟨lm_X4_113, ivX4_markHeld⟩ zSh_19 zc_4 (Nat.le_of_ble_eq_true rfl) ⟨rfl, rfl⟩ rfl (WP.c1v f6 (fun hi4 f5 =>
  WP.iconst (pc2 := 31) (x := 0) rfl (by decide +kernel) (by decide) <|
  WP.istore_n (pc2 := 32) (i := 1) rfl (by decide +kernel) (by decide) <|
  f5)))))))))

set_option maxRecDepth 100000 in
set_option maxHeartbeats 4000000 in
theorem GX4_spread_76 {hi : zI} {hr : zR} {P : Int → zI → zR → Prop} (a1 : Int) (b2 : Int) (a3 : Int) (hb2 : 0 ≤ b2 ∧ b2 < 2)
    (F : (3 ≤ a3 → ((zInR (a1 + 1)) ∧ (W0i mX4_rowOf [.inl (a1 + 1), .inl 2] hi hr (fun (x22 : Int) => W0i mX4_isReached [.inr (some (19, 0)), .inl x22, .inl (hi 19 0 13)] hi hr (fun (x23 : Int) => (x23 = 0 → ((zInR (a1 + 1)) ∧ (WP mX4_spread 32 [some (.inr (some (19, 0))), some (.inl (a1 + 1)), some (.inr (some (23, b2))), some (.inl a3)] [] hi hr (zQ2i P)))) ∧ (x23 ≠ 0 → ((zInR (a1 + 1)) ∧ (P (a1 + 1) hi hr)))))))) ∧ (a3 < 3 → (W1v mX4_spreadStage [.inr (some (19, 0)), .inl a1, .inl a3] hi hr (fun (hi29 : zI) => (zInR (a3 + 1)) ∧ (WP mX4_spread 76 [some (.inr (some (19, 0))), some (.inl a1), some (.inr (some (23, b2))), some (.inl (a3 + 1))] [] hi29 hr (zQ2i P)))))) :
    WP mX4_spread 76 [some (.inr (some (19, 0))), some (.inl a1), some (.inr (some (23, b2))), some (.inl a3)] [] hi hr (zQ2i P) :=
  WP.iload_n (pc2 := 77) (i := 3) rfl (by decide +kernel) rfl <|
  WP.iconst (pc2 := 78) (x := 3) rfl (by decide +kernel) (by decide) <|
  WP.icmp_ge (pc2 := 81) (off := 15) (tgt := 93) rfl (by decide +kernel) (by decide) (fun h31 => have f32 := F.1 h31
  WP.aload_n (pc2 := 94) (i := 0) rfl (by decide +kernel) rfl <|
  WP.iload_n (pc2 := 95) (i := 1) rfl (by decide +kernel) rfl <|
  WP.iconst (pc2 := 96) (x := 1) rfl (by decide +kernel) (by decide) <|
  WP.iadd (pc2 := 97) rfl (by decide +kernel) f32.1 <|
  WP.iconst (pc2 := 98) (x := 2) rfl (by decide +kernel) (by decide) <|
  WP.callS (y := mX4_spread) (index := 107) (pc2 := 101) (y' := mX4_rowOf) (vs := [.inl (a1 + 1), .inl 2]) rfl (by decide +kernel) okX4_rowOf ⟨by decide, by decide⟩ ⟨lm_X4_107, ivX4_rowOf⟩ (Nat.le_of_ble_eq_true rfl) ⟨rfl, rfl⟩ rfl (WP.c0i f32.2 (fun x22 _ f28 =>
  WP.aload_n (pc2 := 102) (i := 0) rfl (by decide +kernel) rfl <|
  WP.getI (pc2 := 105) rfl (by decide +kernel) zc_4 zSh_19 (by decide) rfl lf_X4_70 rfl rfl <|
  WP.callV (y := mX4_spread) (index := 123) (pc2 := 108) (y' := mX4_isReached) (vs := [.inl x22, .inl (hi 19 0 13)]) rfl (by decide +kernel) okX4_isReached ⟨by decide, by decide⟩ ⟨lm_X4_123, ivX4_isReached⟩ zSh_19 zc_4 (Nat.le_of_ble_eq_true rfl) ⟨rfl, rfl⟩ rfl (WP.c0i f28 (fun x23 _ f27 =>
  WP.if_eq (pc2 := 111) (off := 7) (tgt := 115) rfl (by decide +kernel) (by decide) (fun h24 => have f25 := f27.1 h24
  WP.iinc (pc2 := 118) (i := 1) (d := 1) rfl (by decide +kernel) rfl f25.1 <|
  WP.goto (off := -86) (tgt := 32) (by decide +kernel) (by decide) <|
  f25.2) (fun h24 => have f26 := f27.2 h24
  WP.iload_n (pc2 := 112) (i := 1) rfl (by decide +kernel) rfl <|
  WP.iconst (pc2 := 113) (x := 1) rfl (by decide +kernel) (by decide) <|
  WP.iadd (pc2 := 114) rfl (by decide +kernel) f26.1 <|
  WP.iret (by decide +kernel) rfl (fun hx => ⟨_, rfl, hx, trivial, f26.2⟩))))))) (fun h31 => have f33 := F.2 h31
  WP.aload_n (pc2 := 82) (i := 0) rfl (by decide +kernel) rfl <|
  WP.iload_n (pc2 := 83) (i := 1) rfl (by decide +kernel) rfl <|
  WP.iload_n (pc2 := 84) (i := 3) rfl (by decide +kernel) rfl <|
  WP.callV (y := mX4_spread) (index := 119) (pc2 := 87) (y' := mX4_spreadStage) (vs := [.inl a1, .inl a3]) rfl (by decide +kernel) okX4_spreadStage ⟨by decide, by decide⟩ ⟨lm_X4_119, ivX4_spreadStage⟩ zSh_19 zc_4 (Nat.le_of_ble_eq_true rfl) ⟨rfl, rfl⟩ rfl (WP.c1v f33 (fun hi29 f30 =>
  WP.iinc (pc2 := 90) (i := 3) (d := 1) rfl (by decide +kernel) rfl f30.1 <|
  WP.goto (off := -14) (tgt := 76) (by decide +kernel) (by decide) <|
  f30.2)))

set_option maxRecDepth 100000 in
set_option maxHeartbeats 4000000 in
theorem GX4_spread_32 {hi : zI} {hr : zR} {P : Int → zI → zR → Prop} (a1 : Int) (u2 : Option zV) (u3 : Option zV) 
    (F : (300 ≤ a1 → (P (-1) hi hr)) ∧ (a1 < 300 → (∃ j34 : Int, hr 19 0 3 = some (23, j34) ∧ (0 ≤ j34 ∧ j34 < 2) ∧ (∃ j36 : Int, hr 19 0 4 = some (23, j36) ∧ (0 ≤ j36 ∧ j36 < 2) ∧ ((zInR ((hi 19 0 10) + a1)) ∧ ((zInR (((hi 19 0 10) + a1) + 1)) ∧ (W1v mX4_markHeld [.inr (some (19, 0)), .inl (((hi 19 0 10) + a1) + 1)] hi (zupR (zupR hr 19 0 3 (some (23, j36))) 19 0 4 (some (23, j34))) (fun (hi38 : zI) => W1v mX4_dropEntered [.inr (some (19, 0)), .inl a1] hi38 (zupR (zupR hr 19 0 3 (some (23, j36))) 19 0 4 (some (23, j34))) (fun (hi39 : zI) => WP mX4_spread 76 [some (.inr (some (19, 0))), some (.inl a1), some (.inr (some (23, j34))), some (.inl 0)] [] hi39 (zupR (zupR hr 19 0 3 (some (23, j36))) 19 0 4 (some (23, j34))) (zQ2i P)))))))))) :
    WP mX4_spread 32 [some (.inr (some (19, 0))), some (.inl a1), u2, u3] [] hi hr (zQ2i P) :=
  WP.iload_n (pc2 := 33) (i := 1) rfl (by decide +kernel) rfl <|
  WP.sipush (pc2 := 36) (x := 300) rfl (by decide +kernel) ⟨by decide +kernel, by decide⟩ <|
  WP.icmp_ge (pc2 := 39) (off := 85) (tgt := 121) rfl (by decide +kernel) (by decide) (fun h44 => have f45 := F.1 h44
  WP.iconst (pc2 := 122) (x := -1) rfl (by decide +kernel) (by decide) <|
  WP.iret (by decide +kernel) rfl (fun hx => ⟨_, rfl, hx, trivial, f45⟩)) (fun h44 => have f46 := F.2 h44
  WP.aload_n (pc2 := 40) (i := 0) rfl (by decide +kernel) rfl <|
  Exists.elim f46 (fun j34 f43 => have e35 := f43.1; have e35r := f43.2.1
  WP.getR (pc2 := 43) rfl (by decide +kernel) zc_4 zSh_19 (by decide) rfl lf_X4_21 rfl e35 <|
  WP.astore_n (pc2 := 44) (i := 2) rfl (by decide +kernel) (by decide) <|
  WP.aload_n (pc2 := 45) (i := 0) rfl (by decide +kernel) rfl <|
  WP.aload_n (pc2 := 46) (i := 0) rfl (by decide +kernel) rfl <|
  Exists.elim f43.2.2 (fun j36 f42 => have e37 := f42.1; have e37r := f42.2.1
  WP.getR (pc2 := 49) rfl (by decide +kernel) zc_4 zSh_19 (by decide) rfl lf_X4_24 rfl e37 <|
  WP.putR (pc2 := 52) rfl (by decide +kernel) zc_4 zSh_19 (by decide) rfl lf_X4_21 rfl (Or.inr ⟨_, rfl⟩) rfl <|
  WP.aload_n (pc2 := 53) (i := 0) rfl (by decide +kernel) rfl <|
  WP.aload_n (pc2 := 54) (i := 2) rfl (by decide +kernel) rfl <|
  WP.putR (pc2 := 57) rfl (by decide +kernel) zc_4 zSh_19 (by decide) rfl lf_X4_24 rfl (Or.inr ⟨_, rfl⟩) rfl <|
  WP.aload_n (pc2 := 58) (i := 0) rfl (by decide +kernel) rfl <|
  WP.aload_n (pc2 := 59) (i := 0) rfl (by decide +kernel) rfl <|
  WP.getI (pc2 := 62) rfl (by decide +kernel) zc_4 zSh_19 (by decide) rfl lf_X4_57 rfl rfl <|
  WP.iload_n (pc2 := 63) (i := 1) rfl (by decide +kernel) rfl <|
  WP.iadd (pc2 := 64) rfl (by decide +kernel) f42.2.2.1 <|
  WP.iconst (pc2 := 65) (x := 1) rfl (by decide +kernel) (by decide) <|
  WP.iadd (pc2 := 66) rfl (by decide +kernel) f42.2.2.2.1 <|
  WP.callV (y := mX4_spread) (index := 113) (pc2 := 69) (y' := mX4_markHeld) (vs := [.inl (((hi 19 0 10) + a1) + 1)]) rfl (by decide +kernel) okX4_markHeld ⟨by decide, by decide⟩ ⟨lm_X4_113, ivX4_markHeld⟩ zSh_19 zc_4 (Nat.le_of_ble_eq_true rfl) ⟨rfl, rfl⟩ rfl (WP.c1v f42.2.2.2.2 (fun hi38 f41 =>
  WP.aload_n (pc2 := 70) (i := 0) rfl (by decide +kernel) rfl <|
  WP.iload_n (pc2 := 71) (i := 1) rfl (by decide +kernel) rfl <|
  WP.callV (y := mX4_spread) (index := 116) (pc2 := 74) (y' := mX4_dropEntered) (vs := [.inl a1]) rfl (by decide +kernel) okX4_dropEntered ⟨by decide, by decide⟩ ⟨lm_X4_116, ivX4_dropEntered⟩ zSh_19 zc_4 (Nat.le_of_ble_eq_true rfl) ⟨rfl, rfl⟩ rfl (WP.c1v f41 (fun hi39 f40 =>
  WP.iconst (pc2 := 75) (x := 0) rfl (by decide +kernel) (by decide) <|
  WP.istore_n (pc2 := 76) (i := 3) rfl (by decide +kernel) (by decide) <|
  f40)))))))
set_option maxRecDepth 100000 in
set_option maxHeartbeats 4000000 in
theorem GX4_markHeld {hi : zI} {hr : zR} {P : zI → Prop} (l1 : Int) 
    (F : ∃ j1 : Int, hr 19 0 4 = some (23, j1) ∧ (0 ≤ j1 ∧ j1 < 2) ∧ (W1v mJ7_fill_53178 [.inr (some (23, j1)), .inl 0] hi hr (fun (hi3 : zI) => WP mX4_markHeld 10 [some (.inr (some (19, 0))), some (.inl l1), some (.inl 0)] [] hi3 hr (zQ1v hr P)))) :
    W1v mX4_markHeld [.inr (some (19, 0)), .inl l1] hi hr P :=
  WPm.of rfl (show WP mX4_markHeld 0 [some (.inr (some (19, 0))), some (.inl l1), none] [] hi hr (zQ1v hr P) from
  WP.aload_n (pc2 := 1) (i := 0) rfl (by decide +kernel) rfl <|
  Exists.elim F (fun j1 f5 => have e2 := f5.1; have e2r := f5.2.1
  WP.getR (pc2 := 4) rfl (by decide +kernel) zc_4 zSh_19 (by decide) rfl lf_X4_24 rfl e2 <|
  WP.iconst (pc2 := 5) (x := 0) rfl (by decide +kernel) (by decide) <|
  WP.callS (y := mX4_markHeld) (index := 94) (pc2 := 8) (y' := mJ7_fill_53178) (vs := [.inr (some (23, j1)), .inl 0]) rfl (by decide +kernel) okJ7_fill_53178 ⟨by decide, by decide⟩ ⟨lm_X4_94, ivJ7_fill_53178⟩ (Nat.le_of_ble_eq_true rfl) ⟨rfl, rfl⟩ rfl (WP.c1v f5.2.2 (fun hi3 f4 =>
  WP.iconst (pc2 := 9) (x := 0) rfl (by decide +kernel) (by decide) <|
  WP.istore_n (pc2 := 10) (i := 2) rfl (by decide +kernel) (by decide) <|
  f4))))

set_option maxRecDepth 100000 in
set_option maxHeartbeats 4000000 in
theorem GX4_markHeld_10 {hi : zI} {hr : zR} {P : zI → Prop} (hR : RSc hr) (l1 : Int) (a2 : Int) 
    (F : ∃ j6 : Int, hr 19 0 5 = some (30, j6) ∧ (0 ≤ j6 ∧ j6 < 2) ∧ ((hi 30 j6 8 ≤ a2 → P hi) ∧ (a2 < hi 30 j6 8 → ((hr 19 0 6 = some (18, 0)) ∧ ((6 ≤ a2 → P hi) ∧ (a2 < 6 → ((a2 = hi 19 0 9 → ((zInR (a2 + 1)) ∧ (WP mX4_markHeld 10 [some (.inr (some (19, 0))), some (.inl l1), some (.inl (a2 + 1))] [] hi hr (zQ1v hr P)))) ∧ (a2 ≠ hi 19 0 9 → (∃ j9 : Int, hr 19 0 4 = some (23, j9) ∧ (0 ≤ j9 ∧ j9 < 2) ∧ ((0 ≤ a2 ∧ a2 < 6) ∧ (W0i mX6_cellAt [.inr (some (25, a2)), .inl l1] hi hr (fun (x12 : Int) => W1v mX4_mark [.inr (some (19, 0)), .inr (some (23, j9)), .inl 0, .inl x12] hi hr (fun (hi13 : zI) => (zInR (a2 + 1)) ∧ (WP mX4_markHeld 10 [some (.inr (some (19, 0))), some (.inl l1), some (.inl (a2 + 1))] [] hi13 hr (zQ1v hr P))))))))))))))) :
    WP mX4_markHeld 10 [some (.inr (some (19, 0))), some (.inl l1), some (.inl a2)] [] hi hr (zQ1v hr P) :=
  WP.iload_n (pc2 := 11) (i := 2) rfl (by decide +kernel) rfl <|
  WP.aload_n (pc2 := 12) (i := 0) rfl (by decide +kernel) rfl <|
  Exists.elim F (fun j6 f27 => have e7 := f27.1; have e7r := f27.2.1
  WP.getR (pc2 := 15) rfl (by decide +kernel) zc_4 zSh_19 (by decide) rfl lf_X4_34 rfl e7 <|
  WP.getI (pc2 := 18) rfl (by decide +kernel) zc_10 zSh_30 (by decide) rfl lf_X4_127 rfl rfl <|
  WP.icmp_ge (pc2 := 21) (off := 48) (tgt := 66) rfl (by decide +kernel) (by decide) (fun h24 => have f25 := f27.2.2.1 h24
  WP.vret (by decide +kernel) rfl ⟨rfl, rfl, f25⟩) (fun h24 => have f26 := f27.2.2.2 h24
  WP.iload_n (pc2 := 22) (i := 2) rfl (by decide +kernel) rfl <|
  WP.aload_n (pc2 := 23) (i := 0) rfl (by decide +kernel) rfl <|
  have e8 := f26.1
  WP.getR (pc2 := 26) rfl (by decide +kernel) zc_4 zSh_19 (by decide) rfl lf_X4_38 rfl e8 <|
  WP.alen (pc2 := 27) rfl (by decide +kernel) zSh_18 (by decide) (by decide) rfl <|
  WP.icmp_ge (pc2 := 30) (off := 39) (tgt := 66) rfl (by decide +kernel) (by decide) (fun h20 => have f21 := f26.2.1 h20
  WP.vret (by decide +kernel) rfl ⟨rfl, rfl, f21⟩) (fun h20 => have f22 := f26.2.2 h20
  WP.iload_n (pc2 := 31) (i := 2) rfl (by decide +kernel) rfl <|
  WP.aload_n (pc2 := 32) (i := 0) rfl (by decide +kernel) rfl <|
  WP.getI (pc2 := 35) rfl (by decide +kernel) zc_4 zSh_19 (by decide) rfl lf_X4_54 rfl rfl <|
  WP.icmp_eq (pc2 := 38) (off := 25) (tgt := 60) rfl (by decide +kernel) (by decide) (fun h17 => have f18 := f22.1 h17
  WP.iinc (pc2 := 63) (i := 2) (d := 1) rfl (by decide +kernel) rfl f18.1 <|
  WP.goto (off := -53) (tgt := 10) (by decide +kernel) (by decide) <|
  f18.2) (fun h17 => have f19 := f22.2 h17
  WP.aload_n (pc2 := 39) (i := 0) rfl (by decide +kernel) rfl <|
  WP.aload_n (pc2 := 40) (i := 0) rfl (by decide +kernel) rfl <|
  Exists.elim f19 (fun j9 f16 => have e10 := f16.1; have e10r := f16.2.1
  WP.getR (pc2 := 43) rfl (by decide +kernel) zc_4 zSh_19 (by decide) rfl lf_X4_24 rfl e10 <|
  WP.iconst (pc2 := 44) (x := 0) rfl (by decide +kernel) (by decide) <|
  WP.aload_n (pc2 := 45) (i := 0) rfl (by decide +kernel) rfl <|
  WP.getR (pc2 := 48) rfl (by decide +kernel) zc_4 zSh_19 (by decide) rfl lf_X4_38 rfl e8 <|
  WP.iload_n (pc2 := 49) (i := 2) rfl (by decide +kernel) rfl <|
  WP.aaload (pc2 := 50) rfl (by decide +kernel) zSh_18 (by decide) rfl f16.2.2.1 (rs_18_e hR a2 f16.2.2.1) <|
  WP.getR (pc2 := 53) rfl (by decide +kernel) zc_0 zSh_24 (by decide) rfl lf_X4_84 rfl (rs_24_0 hR a2 (f16.2.2.1)) <|
  WP.iload_n (pc2 := 54) (i := 1) rfl (by decide +kernel) rfl <|
  WP.callV (y := mX4_markHeld) (index := 130) (pc2 := 57) (y' := mX6_cellAt) (vs := [.inl l1]) rfl (by decide +kernel) okX6_cellAt ⟨by decide, by decide⟩ ⟨lm_X4_130, ivX6_cellAt⟩ zSh_25 zc_6 (Nat.le_of_ble_eq_true rfl) ⟨rfl, rfl⟩ rfl (WP.c0i f16.2.2.2 (fun x12 _ f15 =>
  WP.callV (y := mX4_markHeld) (index := 103) (pc2 := 60) (y' := mX4_mark) (vs := [.inr (some (23, j9)), .inl 0, .inl x12]) rfl (by decide +kernel) okX4_mark ⟨by decide, by decide⟩ ⟨lm_X4_103, ivX4_mark⟩ zSh_19 zc_4 (Nat.le_of_ble_eq_true rfl) ⟨rfl, rfl⟩ rfl (WP.c1v f15 (fun hi13 f14 =>
  WP.iinc (pc2 := 63) (i := 2) (d := 1) rfl (by decide +kernel) rfl f14.1 <|
  WP.goto (off := -53) (tgt := 10) (by decide +kernel) (by decide) <|
  f14.2)))))))))
set_option maxRecDepth 100000 in
set_option maxHeartbeats 4000000 in
theorem GX4_dropEntered {hi : zI} {hr : zR} {P : zI → Prop} (l1 : Int) 
    (F : WP mX4_dropEntered 2 [some (.inr (some (19, 0))), some (.inl l1), some (.inl 0), none, none] [] hi hr (zQ1v hr P)) :
    W1v mX4_dropEntered [.inr (some (19, 0)), .inl l1] hi hr P :=
  WPm.of rfl (show WP mX4_dropEntered 0 [some (.inr (some (19, 0))), some (.inl l1), none, none, none] [] hi hr (zQ1v hr P) from
  WP.iconst (pc2 := 1) (x := 0) rfl (by decide +kernel) (by decide) <|
  WP.istore_n (pc2 := 2) (i := 2) rfl (by decide +kernel) (by decide) <|
  F)

set_option maxRecDepth 100000 in
set_option maxHeartbeats 4000000 in
theorem GX4_dropEntered_16 {hi : zI} {hr : zR} {P : zI → Prop} (hR : RSc hr) (l1 : Int) (a2 : Int) (a3 : Int) (a4 : Int) 
    (F : (hi 19 0 8 ≤ a4 → ((zInR (a2 + 1)) ∧ (WP mX4_dropEntered 2 [some (.inr (some (19, 0))), some (.inl l1), some (.inl (a2 + 1)), some (.inl a3), some (.inl a4)] [] hi hr (zQ1v hr P)))) ∧ (a4 < hi 19 0 8 → ((zInR (a3 + a4)) ∧ ((0 ≤ a3 + a4 ∧ a3 + a4 < 14448) ∧ (∃ j6 : Int, hr 19 0 4 = some (23, j6) ∧ (0 ≤ j6 ∧ j6 < 2) ∧ ((0 ≤ a4 ∧ a4 < 16) ∧ ((0 ≤ a3 + a4 ∧ a3 + a4 < 14448) ∧ ((zInR (a4 + 1)) ∧ (WP mX4_dropEntered 16 [some (.inr (some (19, 0))), some (.inl l1), some (.inl a2), some (.inl a3), some (.inl (a4 + 1))] [] (zup hi 20 0 (a3 + a4) (zand (hi 20 0 (a3 + a4)) (zxor (hi 23 j6 a4) (-1)))) hr (zQ1v hr P)))))))))) :
    WP mX4_dropEntered 16 [some (.inr (some (19, 0))), some (.inl l1), some (.inl a2), some (.inl a3), some (.inl a4)] [] hi hr (zQ1v hr P) :=
  WP.iload (pc2 := 18) (i := 4) rfl (by decide +kernel) rfl <|
  WP.aload_n (pc2 := 19) (i := 0) rfl (by decide +kernel) rfl <|
  WP.getI (pc2 := 22) rfl (by decide +kernel) zc_4 zSh_19 (by decide) rfl lf_X4_51 rfl rfl <|
  WP.icmp_ge (pc2 := 25) (off := 30) (tgt := 52) rfl (by decide +kernel) (by decide) (fun h9 => have f10 := F.1 h9
  WP.iinc (pc2 := 55) (i := 2) (d := 1) rfl (by decide +kernel) rfl f10.1 <|
  WP.goto (off := -53) (tgt := 2) (by decide +kernel) (by decide) <|
  f10.2) (fun h9 => have f11 := F.2 h9
  WP.aload_n (pc2 := 26) (i := 0) rfl (by decide +kernel) rfl <|
  WP.getR (pc2 := 29) rfl (by decide +kernel) zc_4 zSh_19 (by decide) rfl lf_X4_11 rfl (rs_19_0 hR) <|
  WP.iload_n (pc2 := 30) (i := 3) rfl (by decide +kernel) rfl <|
  WP.iload (pc2 := 32) (i := 4) rfl (by decide +kernel) rfl <|
  WP.iadd (pc2 := 33) rfl (by decide +kernel) f11.1 <|
  WP.dup2 (pc2 := 34) rfl (by decide +kernel) <|
  WP.iaload (pc2 := 35) rfl (by decide +kernel) zSh_20 rfl f11.2.1 rfl <|
  WP.aload_n (pc2 := 36) (i := 0) rfl (by decide +kernel) rfl <|
  Exists.elim f11.2.2 (fun j6 f8 => have e7 := f8.1; have e7r := f8.2.1
  WP.getR (pc2 := 39) rfl (by decide +kernel) zc_4 zSh_19 (by decide) rfl lf_X4_24 rfl e7 <|
  WP.iload (pc2 := 41) (i := 4) rfl (by decide +kernel) rfl <|
  WP.iaload (pc2 := 42) rfl (by decide +kernel) zSh_23 rfl f8.2.2.1 rfl <|
  WP.iconst (pc2 := 43) (x := -1) rfl (by decide +kernel) (by decide) <|
  WP.ixor (pc2 := 44) rfl (by decide +kernel) <|
  WP.iand (pc2 := 45) rfl (by decide +kernel) <|
  WP.iastore (pc2 := 46) rfl (by decide +kernel) zSh_20 rfl f8.2.2.2.1 <|
  WP.iinc (pc2 := 49) (i := 4) (d := 1) rfl (by decide +kernel) rfl f8.2.2.2.2.1 <|
  WP.goto (off := -33) (tgt := 16) (by decide +kernel) (by decide) <|
  f8.2.2.2.2.2))

set_option maxRecDepth 100000 in
set_option maxHeartbeats 4000000 in
theorem GX4_dropEntered_2 {hi : zI} {hr : zR} {P : zI → Prop} (l1 : Int) (a2 : Int) (u3 : Option zV) (u4 : Option zV) 
    (F : (3 ≤ a2 → P hi) ∧ (a2 < 3 → (W0i mX4_rowOf [.inl l1, .inl a2] hi hr (fun (x12 : Int) => WP mX4_dropEntered 16 [some (.inr (some (19, 0))), some (.inl l1), some (.inl a2), some (.inl x12), some (.inl 0)] [] hi hr (zQ1v hr P))))) :
    WP mX4_dropEntered 2 [some (.inr (some (19, 0))), some (.inl l1), some (.inl a2), u3, u4] [] hi hr (zQ1v hr P) :=
  WP.iload_n (pc2 := 3) (i := 2) rfl (by decide +kernel) rfl <|
  WP.iconst (pc2 := 4) (x := 3) rfl (by decide +kernel) (by decide) <|
  WP.icmp_ge (pc2 := 7) (off := 54) (tgt := 58) rfl (by decide +kernel) (by decide) (fun h14 => have f15 := F.1 h14
  WP.vret (by decide +kernel) rfl ⟨rfl, rfl, f15⟩) (fun h14 => have f16 := F.2 h14
  WP.iload_n (pc2 := 8) (i := 1) rfl (by decide +kernel) rfl <|
  WP.iload_n (pc2 := 9) (i := 2) rfl (by decide +kernel) rfl <|
  WP.callS (y := mX4_dropEntered) (index := 107) (pc2 := 12) (y' := mX4_rowOf) (vs := [.inl l1, .inl a2]) rfl (by decide +kernel) okX4_rowOf ⟨by decide, by decide⟩ ⟨lm_X4_107, ivX4_rowOf⟩ (Nat.le_of_ble_eq_true rfl) ⟨rfl, rfl⟩ rfl (WP.c0i f16 (fun x12 _ f13 =>
  WP.istore_n (pc2 := 13) (i := 3) rfl (by decide +kernel) (by decide) <|
  WP.iconst (pc2 := 14) (x := 0) rfl (by decide +kernel) (by decide) <|
  WP.istore (pc2 := 16) (i := 4) rfl (by decide +kernel) (by decide) <|
  f13)))
set_option maxRecDepth 100000 in
set_option maxHeartbeats 4000000 in
theorem GX4_spreadStage {hi : zI} {hr : zR} {P : zI → Prop} (l1 : Int) (l2 : Int) 
    (F : W0i mX4_rowOf [.inl l1, .inl l2] hi hr (fun (x1 : Int) => (zInR (l1 + 1)) ∧ (W0i mX4_rowOf [.inl (l1 + 1), .inl l2] hi hr (fun (x2 : Int) => W0i mX4_rowOf [.inl 0, .inl l2] hi hr (fun (x3 : Int) => WP mX4_spreadStage 25 [some (.inr (some (19, 0))), some (.inl l1), some (.inl l2), some (.inl x1), some (.inl x2), some (.inl x3), some (.inl 0), none, none, none] [] hi hr (zQ1v hr P)))))) :
    W1v mX4_spreadStage [.inr (some (19, 0)), .inl l1, .inl l2] hi hr P :=
  WPm.of rfl (show WP mX4_spreadStage 0 [some (.inr (some (19, 0))), some (.inl l1), some (.inl l2), none, none, none, none, none, none, none] [] hi hr (zQ1v hr P) from
  WP.iload_n (pc2 := 1) (i := 1) rfl (by decide +kernel) rfl <|
  WP.iload_n (pc2 := 2) (i := 2) rfl (by decide +kernel) rfl <|
  WP.callS (y := mX4_spreadStage) (index := 107) (pc2 := 5) (y' := mX4_rowOf) (vs := [.inl l1, .inl l2]) rfl (by decide +kernel) okX4_rowOf ⟨by decide, by decide⟩ ⟨lm_X4_107, ivX4_rowOf⟩ (Nat.le_of_ble_eq_true rfl) ⟨rfl, rfl⟩ rfl (WP.c0i F (fun x1 _ f6 =>
  WP.istore_n (pc2 := 6) (i := 3) rfl (by decide +kernel) (by decide) <|
  WP.iload_n (pc2 := 7) (i := 1) rfl (by decide +kernel) rfl <|
  WP.iconst (pc2 := 8) (x := 1) rfl (by decide +kernel) (by decide) <|
  WP.iadd (pc2 := 9) rfl (by decide +kernel) f6.1 <|
  WP.iload_n (pc2 := 10) (i := 2) rfl (by decide +kernel) rfl <|
  WP.callS (y := mX4_spreadStage) (index := 107) (pc2 := 13) (y' := mX4_rowOf) (vs := [.inl (l1 + 1), .inl l2]) rfl (by decide +kernel) okX4_rowOf ⟨by decide, by decide⟩ ⟨lm_X4_107, ivX4_rowOf⟩ (Nat.le_of_ble_eq_true rfl) ⟨rfl, rfl⟩ rfl (WP.c0i f6.2 (fun x2 _ f5 =>
  WP.istore (pc2 := 15) (i := 4) rfl (by decide +kernel) (by decide) <|
  WP.iconst (pc2 := 16) (x := 0) rfl (by decide +kernel) (by decide) <|
  WP.iload_n (pc2 := 17) (i := 2) rfl (by decide +kernel) rfl <|
  WP.callS (y := mX4_spreadStage) (index := 107) (pc2 := 20) (y' := mX4_rowOf) (vs := [.inl 0, .inl l2]) rfl (by decide +kernel) okX4_rowOf ⟨by decide, by decide⟩ ⟨lm_X4_107, ivX4_rowOf⟩ (Nat.le_of_ble_eq_true rfl) ⟨rfl, rfl⟩ rfl (WP.c0i f5 (fun x3 _ f4 =>
  WP.istore (pc2 := 22) (i := 5) rfl (by decide +kernel) (by decide) <|
  WP.iconst (pc2 := 23) (x := 0) rfl (by decide +kernel) (by decide) <|
  WP.istore (pc2 := 25) (i := 6) rfl (by decide +kernel) (by decide) <|
  f4)))))))

set_option maxRecDepth 100000 in
set_option maxHeartbeats 4000000 in
theorem GX4_spreadStage_25 {hi : zI} {hr : zR} {P : zI → Prop} (hR : RSc hr) (l1 : Int) (l2 : Int) (a3 : Int) (a4 : Int) (a5 : Int) (a6 : Int) (u7 : Option zV) (u8 : Option zV) (u9 : Option zV) 
    (F : (hi 19 0 8 ≤ a6 → P hi) ∧ (a6 < hi 19 0 8 → ((0 ≤ a6 ∧ a6 < 16) ∧ (∃ j23 : Int, hr 19 0 3 = some (23, j23) ∧ (0 ≤ j23 ∧ j23 < 2) ∧ ((0 ≤ a6 ∧ a6 < 16) ∧ (∃ j25 : Int, hr 19 0 4 = some (23, j25) ∧ (0 ≤ j25 ∧ j25 < 2) ∧ ((0 ≤ a6 ∧ a6 < 16) ∧ ((zInR (a3 + a6)) ∧ ((0 ≤ a3 + a6 ∧ a3 + a6 < 14448) ∧ ((zInR (a5 + a6)) ∧ ((0 ≤ a5 + a6 ∧ a5 + a6 < 48) ∧ ((l2 ≠ 0 → ((zInR (a3 - 16)) ∧ ((zInR ((a3 - 16) + a6)) ∧ ((0 ≤ (a3 - 16) + a6 ∧ (a3 - 16) + a6 < 14448) ∧ ((zInR (a5 - 16)) ∧ ((zInR ((a5 - 16) + a6)) ∧ ((0 ≤ (a5 - 16) + a6 ∧ (a5 - 16) + a6 < 48) ∧ ((zInR (a4 + a6)) ∧ (W0i mX4_beside [.inr (some (19, 0)), .inl a3, .inl a6] hi hr (fun (x27 : Int) => (0 ≤ a4 + a6 ∧ a4 + a6 < 14448) ∧ ((zInR (a6 + 1)) ∧ (WP mX4_spreadStage 25 [some (.inr (some (19, 0))), some (.inl l1), some (.inl l2), some (.inl a3), some (.inl a4), some (.inl a5), some (.inl (a6 + 1)), some (.inl (zand (zand (hi 21 0 a6) (zxor (hi 23 j23 a6) (-1))) (zxor (hi 23 j25 a6) (-1)))), some (.inl (zand (hi 20 0 (a3 + a6)) (zxor (hi 22 0 (a5 + a6)) (-1)))), some (.inl (zand (hi 20 0 ((a3 - 16) + a6)) (hi 22 0 ((a5 - 16) + a6))))] [] (zup hi 20 0 (a4 + a6) (zand (zand (zand (hi 21 0 a6) (zxor (hi 23 j23 a6) (-1))) (zxor (hi 23 j25 a6) (-1))) (zor (zor (zand (hi 20 0 (a3 + a6)) (zxor (hi 22 0 (a5 + a6)) (-1))) (zand (hi 20 0 ((a3 - 16) + a6)) (hi 22 0 ((a5 - 16) + a6)))) x27))) hr (zQ1v hr P))))))))))))) ∧ (l2 = 0 → ((zInR (a4 + a6)) ∧ (W0i mX4_beside [.inr (some (19, 0)), .inl a3, .inl a6] hi hr (fun (x29 : Int) => (0 ≤ a4 + a6 ∧ a4 + a6 < 14448) ∧ ((zInR (a6 + 1)) ∧ (WP mX4_spreadStage 25 [some (.inr (some (19, 0))), some (.inl l1), some (.inl l2), some (.inl a3), some (.inl a4), some (.inl a5), some (.inl (a6 + 1)), some (.inl (zand (zand (hi 21 0 a6) (zxor (hi 23 j23 a6) (-1))) (zxor (hi 23 j25 a6) (-1)))), some (.inl (zand (hi 20 0 (a3 + a6)) (zxor (hi 22 0 (a5 + a6)) (-1)))), some (.inl 0)] [] (zup hi 20 0 (a4 + a6) (zand (zand (zand (hi 21 0 a6) (zxor (hi 23 j23 a6) (-1))) (zxor (hi 23 j25 a6) (-1))) (zor (zor (zand (hi 20 0 (a3 + a6)) (zxor (hi 22 0 (a5 + a6)) (-1))) 0) x29))) hr (zQ1v hr P))))))))))))))))))) :
    WP mX4_spreadStage 25 [some (.inr (some (19, 0))), some (.inl l1), some (.inl l2), some (.inl a3), some (.inl a4), some (.inl a5), some (.inl a6), u7, u8, u9] [] hi hr (zQ1v hr P) :=
  WP.iload (pc2 := 27) (i := 6) rfl (by decide +kernel) rfl <|
  WP.aload_n (pc2 := 28) (i := 0) rfl (by decide +kernel) rfl <|
  WP.getI (pc2 := 31) rfl (by decide +kernel) zc_4 zSh_19 (by decide) rfl lf_X4_51 rfl rfl <|
  WP.icmp_ge (pc2 := 34) (off := 124) (tgt := 155) rfl (by decide +kernel) (by decide) (fun h36 => have f37 := F.1 h36
  WP.vret (by decide +kernel) rfl ⟨rfl, rfl, f37⟩) (fun h36 => have f38 := F.2 h36
  WP.aload_n (pc2 := 35) (i := 0) rfl (by decide +kernel) rfl <|
  WP.getR (pc2 := 38) rfl (by decide +kernel) zc_4 zSh_19 (by decide) rfl lf_X4_15 rfl (rs_19_1 hR) <|
  WP.iload (pc2 := 40) (i := 6) rfl (by decide +kernel) rfl <|
  WP.iaload (pc2 := 41) rfl (by decide +kernel) zSh_21 rfl f38.1 rfl <|
  WP.aload_n (pc2 := 42) (i := 0) rfl (by decide +kernel) rfl <|
  Exists.elim f38.2 (fun j23 f35 => have e24 := f35.1; have e24r := f35.2.1
  WP.getR (pc2 := 45) rfl (by decide +kernel) zc_4 zSh_19 (by decide) rfl lf_X4_21 rfl e24 <|
  WP.iload (pc2 := 47) (i := 6) rfl (by decide +kernel) rfl <|
  WP.iaload (pc2 := 48) rfl (by decide +kernel) zSh_23 rfl f35.2.2.1 rfl <|
  WP.iconst (pc2 := 49) (x := -1) rfl (by decide +kernel) (by decide) <|
  WP.ixor (pc2 := 50) rfl (by decide +kernel) <|
  WP.iand (pc2 := 51) rfl (by decide +kernel) <|
  WP.aload_n (pc2 := 52) (i := 0) rfl (by decide +kernel) rfl <|
  Exists.elim f35.2.2.2 (fun j25 f34 => have e26 := f34.1; have e26r := f34.2.1
  WP.getR (pc2 := 55) rfl (by decide +kernel) zc_4 zSh_19 (by decide) rfl lf_X4_24 rfl e26 <|
  WP.iload (pc2 := 57) (i := 6) rfl (by decide +kernel) rfl <|
  WP.iaload (pc2 := 58) rfl (by decide +kernel) zSh_23 rfl f34.2.2.1 rfl <|
  WP.iconst (pc2 := 59) (x := -1) rfl (by decide +kernel) (by decide) <|
  WP.ixor (pc2 := 60) rfl (by decide +kernel) <|
  WP.iand (pc2 := 61) rfl (by decide +kernel) <|
  WP.istore (pc2 := 63) (i := 7) rfl (by decide +kernel) (by decide) <|
  WP.aload_n (pc2 := 64) (i := 0) rfl (by decide +kernel) rfl <|
  WP.getR (pc2 := 67) rfl (by decide +kernel) zc_4 zSh_19 (by decide) rfl lf_X4_11 rfl (rs_19_0 hR) <|
  WP.iload_n (pc2 := 68) (i := 3) rfl (by decide +kernel) rfl <|
  WP.iload (pc2 := 70) (i := 6) rfl (by decide +kernel) rfl <|
  WP.iadd (pc2 := 71) rfl (by decide +kernel) f34.2.2.2.1 <|
  WP.iaload (pc2 := 72) rfl (by decide +kernel) zSh_20 rfl f34.2.2.2.2.1 rfl <|
  WP.aload_n (pc2 := 73) (i := 0) rfl (by decide +kernel) rfl <|
  WP.getR (pc2 := 76) rfl (by decide +kernel) zc_4 zSh_19 (by decide) rfl lf_X4_18 rfl (rs_19_2 hR) <|
  WP.iload (pc2 := 78) (i := 5) rfl (by decide +kernel) rfl <|
  WP.iload (pc2 := 80) (i := 6) rfl (by decide +kernel) rfl <|
  WP.iadd (pc2 := 81) rfl (by decide +kernel) f34.2.2.2.2.2.1 <|
  WP.iaload (pc2 := 82) rfl (by decide +kernel) zSh_22 rfl f34.2.2.2.2.2.2.1 rfl <|
  WP.iconst (pc2 := 83) (x := -1) rfl (by decide +kernel) (by decide) <|
  WP.ixor (pc2 := 84) rfl (by decide +kernel) <|
  WP.iand (pc2 := 85) rfl (by decide +kernel) <|
  WP.istore (pc2 := 87) (i := 8) rfl (by decide +kernel) (by decide) <|
  WP.iload_n (pc2 := 88) (i := 2) rfl (by decide +kernel) rfl <|
  WP.if_ne (pc2 := 91) (off := 7) (tgt := 95) rfl (by decide +kernel) (by decide) (fun h31 => have f32 := f34.2.2.2.2.2.2.2.1 h31
  WP.aload_n (pc2 := 96) (i := 0) rfl (by decide +kernel) rfl <|
  WP.getR (pc2 := 99) rfl (by decide +kernel) zc_4 zSh_19 (by decide) rfl lf_X4_11 rfl (rs_19_0 hR) <|
  WP.iload_n (pc2 := 100) (i := 3) rfl (by decide +kernel) rfl <|
  WP.bipush (pc2 := 102) (x := 16) rfl (by decide +kernel) ⟨by decide +kernel, by decide⟩ <|
  WP.isub (pc2 := 103) rfl (by decide +kernel) f32.1 <|
  WP.iload (pc2 := 105) (i := 6) rfl (by decide +kernel) rfl <|
  WP.iadd (pc2 := 106) rfl (by decide +kernel) f32.2.1 <|
  WP.iaload (pc2 := 107) rfl (by decide +kernel) zSh_20 rfl f32.2.2.1 rfl <|
  WP.aload_n (pc2 := 108) (i := 0) rfl (by decide +kernel) rfl <|
  WP.getR (pc2 := 111) rfl (by decide +kernel) zc_4 zSh_19 (by decide) rfl lf_X4_18 rfl (rs_19_2 hR) <|
  WP.iload (pc2 := 113) (i := 5) rfl (by decide +kernel) rfl <|
  WP.bipush (pc2 := 115) (x := 16) rfl (by decide +kernel) ⟨by decide +kernel, by decide⟩ <|
  WP.isub (pc2 := 116) rfl (by decide +kernel) f32.2.2.2.1 <|
  WP.iload (pc2 := 118) (i := 6) rfl (by decide +kernel) rfl <|
  WP.iadd (pc2 := 119) rfl (by decide +kernel) f32.2.2.2.2.1 <|
  WP.iaload (pc2 := 120) rfl (by decide +kernel) zSh_22 rfl f32.2.2.2.2.2.1 rfl <|
  WP.iand (pc2 := 121) rfl (by decide +kernel) <|
  WP.istore (pc2 := 123) (i := 9) rfl (by decide +kernel) (by decide) <|
  WP.aload_n (pc2 := 124) (i := 0) rfl (by decide +kernel) rfl <|
  WP.getR (pc2 := 127) rfl (by decide +kernel) zc_4 zSh_19 (by decide) rfl lf_X4_11 rfl (rs_19_0 hR) <|
  WP.iload (pc2 := 129) (i := 4) rfl (by decide +kernel) rfl <|
  WP.iload (pc2 := 131) (i := 6) rfl (by decide +kernel) rfl <|
  WP.iadd (pc2 := 132) rfl (by decide +kernel) f32.2.2.2.2.2.2.1 <|
  WP.iload (pc2 := 134) (i := 7) rfl (by decide +kernel) rfl <|
  WP.iload (pc2 := 136) (i := 8) rfl (by decide +kernel) rfl <|
  WP.iload (pc2 := 138) (i := 9) rfl (by decide +kernel) rfl <|
  WP.ior (pc2 := 139) rfl (by decide +kernel) <|
  WP.aload_n (pc2 := 140) (i := 0) rfl (by decide +kernel) rfl <|
  WP.iload_n (pc2 := 141) (i := 3) rfl (by decide +kernel) rfl <|
  WP.iload (pc2 := 143) (i := 6) rfl (by decide +kernel) rfl <|
  WP.callV (y := mX4_spreadStage) (index := 135) (pc2 := 146) (y' := mX4_beside) (vs := [.inl a3, .inl a6]) rfl (by decide +kernel) okX4_beside ⟨by decide, by decide⟩ ⟨lm_X4_135, ivX4_beside⟩ zSh_19 zc_4 (Nat.le_of_ble_eq_true rfl) ⟨rfl, rfl⟩ rfl (WP.c0i f32.2.2.2.2.2.2.2 (fun x27 _ f28 =>
  WP.ior (pc2 := 147) rfl (by decide +kernel) <|
  WP.iand (pc2 := 148) rfl (by decide +kernel) <|
  WP.iastore (pc2 := 149) rfl (by decide +kernel) zSh_20 rfl f28.1 <|
  WP.iinc (pc2 := 152) (i := 6) (d := 1) rfl (by decide +kernel) rfl f28.2.1 <|
  WP.goto (off := -127) (tgt := 25) (by decide +kernel) (by decide) <|
  f28.2.2))) (fun h31 => have f33 := f34.2.2.2.2.2.2.2.2 h31
  WP.iconst (pc2 := 92) (x := 0) rfl (by decide +kernel) (by decide) <|
  WP.goto (off := 29) (tgt := 121) (by decide +kernel) (by decide) <|
  WP.istore (pc2 := 123) (i := 9) rfl (by decide +kernel) (by decide) <|
  WP.aload_n (pc2 := 124) (i := 0) rfl (by decide +kernel) rfl <|
  WP.getR (pc2 := 127) rfl (by decide +kernel) zc_4 zSh_19 (by decide) rfl lf_X4_11 rfl (rs_19_0 hR) <|
  WP.iload (pc2 := 129) (i := 4) rfl (by decide +kernel) rfl <|
  WP.iload (pc2 := 131) (i := 6) rfl (by decide +kernel) rfl <|
  WP.iadd (pc2 := 132) rfl (by decide +kernel) f33.1 <|
  WP.iload (pc2 := 134) (i := 7) rfl (by decide +kernel) rfl <|
  WP.iload (pc2 := 136) (i := 8) rfl (by decide +kernel) rfl <|
  WP.iload (pc2 := 138) (i := 9) rfl (by decide +kernel) rfl <|
  WP.ior (pc2 := 139) rfl (by decide +kernel) <|
  WP.aload_n (pc2 := 140) (i := 0) rfl (by decide +kernel) rfl <|
  WP.iload_n (pc2 := 141) (i := 3) rfl (by decide +kernel) rfl <|
  WP.iload (pc2 := 143) (i := 6) rfl (by decide +kernel) rfl <|
  WP.callV (y := mX4_spreadStage) (index := 135) (pc2 := 146) (y' := mX4_beside) (vs := [.inl a3, .inl a6]) rfl (by decide +kernel) okX4_beside ⟨by decide, by decide⟩ ⟨lm_X4_135, ivX4_beside⟩ zSh_19 zc_4 (Nat.le_of_ble_eq_true rfl) ⟨rfl, rfl⟩ rfl (WP.c0i f33.2 (fun x29 _ f30 =>
  WP.ior (pc2 := 147) rfl (by decide +kernel) <|
  WP.iand (pc2 := 148) rfl (by decide +kernel) <|
  WP.iastore (pc2 := 149) rfl (by decide +kernel) zSh_20 rfl f30.1 <|
  WP.iinc (pc2 := 152) (i := 6) (d := 1) rfl (by decide +kernel) rfl f30.2.1 <|
  WP.goto (off := -127) (tgt := 25) (by decide +kernel) (by decide) <|
  f30.2.2))))))
set_option maxRecDepth 100000 in
set_option maxHeartbeats 4000000 in
theorem GX4_keepWhatLeadsHome {hi : zI} {hr : zR} {P : zI → Prop} (hR : RSc hr) (l1 : Int) 
    (F : W1v mX4_clearLayer [.inr (some (19, 0)), .inl l1] hi hr (fun (hi1 : zI) => W0i mX4_rowOf [.inl l1, .inl 2] hi1 hr (fun (x2 : Int) => W1v mX4_mark [.inr (some (19, 0)), .inr (some (20, 0)), .inl x2, .inl (hi1 19 0 13)] hi1 hr (fun (hi3 : zI) => (zInR (l1 - 1)) ∧ (WP mX4_keepWhatLeadsHome 26 [some (.inr (some (19, 0))), some (.inl l1), some (.inl (l1 - 1)), none] [] hi3 hr (zQ1v hr P)))))) :
    W1v mX4_keepWhatLeadsHome [.inr (some (19, 0)), .inl l1] hi hr P :=
  WPm.of rfl (show WP mX4_keepWhatLeadsHome 0 [some (.inr (some (19, 0))), some (.inl l1), none, none] [] hi hr (zQ1v hr P) from
  WP.aload_n (pc2 := 1) (i := 0) rfl (by decide +kernel) rfl <|
  WP.iload_n (pc2 := 2) (i := 1) rfl (by decide +kernel) rfl <|
  WP.callV (y := mX4_keepWhatLeadsHome) (index := 110) (pc2 := 5) (y' := mX4_clearLayer) (vs := [.inl l1]) rfl (by decide +kernel) okX4_clearLayer ⟨by decide, by decide⟩ ⟨lm_X4_110, ivX4_clearLayer⟩ zSh_19 zc_4 (Nat.le_of_ble_eq_true rfl) ⟨rfl, rfl⟩ rfl (WP.c1v F (fun hi1 f6 =>
  WP.aload_n (pc2 := 6) (i := 0) rfl (by decide +kernel) rfl <|
  WP.aload_n (pc2 := 7) (i := 0) rfl (by decide +kernel) rfl <|
  WP.getR (pc2 := 10) rfl (by decide +kernel) zc_4 zSh_19 (by decide) rfl lf_X4_11 rfl (rs_19_0 hR) <|
  WP.iload_n (pc2 := 11) (i := 1) rfl (by decide +kernel) rfl <|
  WP.iconst (pc2 := 12) (x := 2) rfl (by decide +kernel) (by decide) <|
  WP.callS (y := mX4_keepWhatLeadsHome) (index := 107) (pc2 := 15) (y' := mX4_rowOf) (vs := [.inl l1, .inl 2]) rfl (by decide +kernel) okX4_rowOf ⟨by decide, by decide⟩ ⟨lm_X4_107, ivX4_rowOf⟩ (Nat.le_of_ble_eq_true rfl) ⟨rfl, rfl⟩ rfl (WP.c0i f6 (fun x2 _ f5 =>
  WP.aload_n (pc2 := 16) (i := 0) rfl (by decide +kernel) rfl <|
  WP.getI (pc2 := 19) rfl (by decide +kernel) zc_4 zSh_19 (by decide) rfl lf_X4_70 rfl rfl <|
  WP.callV (y := mX4_keepWhatLeadsHome) (index := 103) (pc2 := 22) (y' := mX4_mark) (vs := [.inr (some (20, 0)), .inl x2, .inl (hi1 19 0 13)]) rfl (by decide +kernel) okX4_mark ⟨by decide, by decide⟩ ⟨lm_X4_103, ivX4_mark⟩ zSh_19 zc_4 (Nat.le_of_ble_eq_true rfl) ⟨rfl, rfl⟩ rfl (WP.c1v f5 (fun hi3 f4 =>
  WP.iload_n (pc2 := 23) (i := 1) rfl (by decide +kernel) rfl <|
  WP.iconst (pc2 := 24) (x := 1) rfl (by decide +kernel) (by decide) <|
  WP.isub (pc2 := 25) rfl (by decide +kernel) f4.1 <|
  WP.istore_n (pc2 := 26) (i := 2) rfl (by decide +kernel) (by decide) <|
  f4.2)))))))

set_option maxRecDepth 100000 in
set_option maxHeartbeats 4000000 in
theorem GX4_keepWhatLeadsHome_32 {hi : zI} {hr : zR} {P : zI → Prop} (l1 : Int) (a2 : Int) (a3 : Int) 
    (F : (3 ≤ a3 → ((zInR (a2 + (-1))) ∧ (WP mX4_keepWhatLeadsHome 26 [some (.inr (some (19, 0))), some (.inl l1), some (.inl (a2 + (-1))), some (.inl a3)] [] hi hr (zQ1v hr P)))) ∧ (a3 < 3 → (W1v mX4_keepStage [.inr (some (19, 0)), .inl a2, .inl a3] hi hr (fun (hi10 : zI) => (zInR (a3 + 1)) ∧ (WP mX4_keepWhatLeadsHome 32 [some (.inr (some (19, 0))), some (.inl l1), some (.inl a2), some (.inl (a3 + 1))] [] hi10 hr (zQ1v hr P)))))) :
    WP mX4_keepWhatLeadsHome 32 [some (.inr (some (19, 0))), some (.inl l1), some (.inl a2), some (.inl a3)] [] hi hr (zQ1v hr P) :=
  WP.iload_n (pc2 := 33) (i := 3) rfl (by decide +kernel) rfl <|
  WP.iconst (pc2 := 34) (x := 3) rfl (by decide +kernel) (by decide) <|
  WP.icmp_ge (pc2 := 37) (off := 15) (tgt := 49) rfl (by decide +kernel) (by decide) (fun h12 => have f13 := F.1 h12
  WP.iinc (pc2 := 52) (i := 2) (d := -1) rfl (by decide +kernel) rfl f13.1 <|
  WP.goto (off := -26) (tgt := 26) (by decide +kernel) (by decide) <|
  f13.2) (fun h12 => have f14 := F.2 h12
  WP.aload_n (pc2 := 38) (i := 0) rfl (by decide +kernel) rfl <|
  WP.iload_n (pc2 := 39) (i := 2) rfl (by decide +kernel) rfl <|
  WP.iload_n (pc2 := 40) (i := 3) rfl (by decide +kernel) rfl <|
  WP.callV (y := mX4_keepWhatLeadsHome) (index := 138) (pc2 := 43) (y' := mX4_keepStage) (vs := [.inl a2, .inl a3]) rfl (by decide +kernel) okX4_keepStage ⟨by decide, by decide⟩ ⟨lm_X4_138, ivX4_keepStage⟩ zSh_19 zc_4 (Nat.le_of_ble_eq_true rfl) ⟨rfl, rfl⟩ rfl (WP.c1v f14 (fun hi10 f11 =>
  WP.iinc (pc2 := 46) (i := 3) (d := 1) rfl (by decide +kernel) rfl f11.1 <|
  WP.goto (off := -14) (tgt := 32) (by decide +kernel) (by decide) <|
  f11.2)))

set_option maxRecDepth 100000 in
set_option maxHeartbeats 4000000 in
theorem GX4_keepWhatLeadsHome_26 {hi : zI} {hr : zR} {P : zI → Prop} (l1 : Int) (a2 : Int) (u3 : Option zV) 
    (F : (a2 < 0 → P hi) ∧ (0 ≤ a2 → (WP mX4_keepWhatLeadsHome 32 [some (.inr (some (19, 0))), some (.inl l1), some (.inl a2), some (.inl 0)] [] hi hr (zQ1v hr P)))) :
    WP mX4_keepWhatLeadsHome 26 [some (.inr (some (19, 0))), some (.inl l1), some (.inl a2), u3] [] hi hr (zQ1v hr P) :=
  WP.iload_n (pc2 := 27) (i := 2) rfl (by decide +kernel) rfl <|
  WP.if_lt (pc2 := 30) (off := 28) (tgt := 55) rfl (by decide +kernel) (by decide) (fun h15 => have f16 := F.1 h15
  WP.vret (by decide +kernel) rfl ⟨rfl, rfl, f16⟩) (fun h15 => have f17 := F.2 h15
  WP.iconst (pc2 := 31) (x := 0) rfl (by decide +kernel) (by decide) <|
  WP.istore_n (pc2 := 32) (i := 3) rfl (by decide +kernel) (by decide) <|
  f17)
set_option maxRecDepth 100000 in
set_option maxHeartbeats 4000000 in
theorem GX4_keepStage {hi : zI} {hr : zR} {P : zI → Prop} (l1 : Int) (l2 : Int) 
    (F : W0i mX4_rowOf [.inl l1, .inl l2] hi hr (fun (x1 : Int) => (zInR (l1 + 1)) ∧ (W0i mX4_rowOf [.inl (l1 + 1), .inl l2] hi hr (fun (x2 : Int) => WP mX4_keepStage 18 [some (.inr (some (19, 0))), some (.inl l1), some (.inl l2), some (.inl x1), some (.inl x2), some (.inl 0), none, none, none] [] hi hr (zQ1v hr P))))) :
    W1v mX4_keepStage [.inr (some (19, 0)), .inl l1, .inl l2] hi hr P :=
  WPm.of rfl (show WP mX4_keepStage 0 [some (.inr (some (19, 0))), some (.inl l1), some (.inl l2), none, none, none, none, none, none] [] hi hr (zQ1v hr P) from
  WP.iload_n (pc2 := 1) (i := 1) rfl (by decide +kernel) rfl <|
  WP.iload_n (pc2 := 2) (i := 2) rfl (by decide +kernel) rfl <|
  WP.callS (y := mX4_keepStage) (index := 107) (pc2 := 5) (y' := mX4_rowOf) (vs := [.inl l1, .inl l2]) rfl (by decide +kernel) okX4_rowOf ⟨by decide, by decide⟩ ⟨lm_X4_107, ivX4_rowOf⟩ (Nat.le_of_ble_eq_true rfl) ⟨rfl, rfl⟩ rfl (WP.c0i F (fun x1 _ f4 =>
  WP.istore_n (pc2 := 6) (i := 3) rfl (by decide +kernel) (by decide) <|
  WP.iload_n (pc2 := 7) (i := 1) rfl (by decide +kernel) rfl <|
  WP.iconst (pc2 := 8) (x := 1) rfl (by decide +kernel) (by decide) <|
  WP.iadd (pc2 := 9) rfl (by decide +kernel) f4.1 <|
  WP.iload_n (pc2 := 10) (i := 2) rfl (by decide +kernel) rfl <|
  WP.callS (y := mX4_keepStage) (index := 107) (pc2 := 13) (y' := mX4_rowOf) (vs := [.inl (l1 + 1), .inl l2]) rfl (by decide +kernel) okX4_rowOf ⟨by decide, by decide⟩ ⟨lm_X4_107, ivX4_rowOf⟩ (Nat.le_of_ble_eq_true rfl) ⟨rfl, rfl⟩ rfl (WP.c0i f4.2 (fun x2 _ f3 =>
  WP.istore (pc2 := 15) (i := 4) rfl (by decide +kernel) (by decide) <|
  WP.iconst (pc2 := 16) (x := 0) rfl (by decide +kernel) (by decide) <|
  WP.istore (pc2 := 18) (i := 5) rfl (by decide +kernel) (by decide) <|
  f3)))))

set_option maxRecDepth 100000 in
set_option maxHeartbeats 4000000 in
theorem GX4_keepStage_18 {hi : zI} {hr : zR} {P : zI → Prop} (hR : RSc hr) (l1 : Int) (l2 : Int) (a3 : Int) (a4 : Int) (a5 : Int) (u6 : Option zV) (u7 : Option zV) (u8 : Option zV) 
    (F : (hi 19 0 8 ≤ a5 → P hi) ∧ (a5 < hi 19 0 8 → (W0i mX4_rowOf [.inl 0, .inl l2] hi hr (fun (x17 : Int) => (zInR (x17 + a5)) ∧ ((0 ≤ x17 + a5 ∧ x17 + a5 < 48) ∧ ((zInR (a4 + a5)) ∧ ((0 ≤ a4 + a5 ∧ a4 + a5 < 14448) ∧ ((l2 ≠ 2 → ((zInR (a4 + 16)) ∧ ((zInR ((a4 + 16) + a5)) ∧ ((0 ≤ (a4 + 16) + a5 ∧ (a4 + 16) + a5 < 14448) ∧ ((zInR (a3 + a5)) ∧ ((0 ≤ a3 + a5 ∧ a3 + a5 < 14448) ∧ (W0i mX4_beside [.inr (some (19, 0)), .inl a4, .inl a5] hi hr (fun (x18 : Int) => (0 ≤ a3 + a5 ∧ a3 + a5 < 14448) ∧ ((zInR (a5 + 1)) ∧ (WP mX4_keepStage 18 [some (.inr (some (19, 0))), some (.inl l1), some (.inl l2), some (.inl a3), some (.inl a4), some (.inl (a5 + 1)), some (.inl (hi 22 0 (x17 + a5))), some (.inl (zand (hi 20 0 (a4 + a5)) (zxor (hi 22 0 (x17 + a5)) (-1)))), some (.inl (zand (hi 20 0 ((a4 + 16) + a5)) (hi 22 0 (x17 + a5))))] [] (zup hi 20 0 (a3 + a5) (zand (hi 20 0 (a3 + a5)) (zor (zor (zand (hi 20 0 (a4 + a5)) (zxor (hi 22 0 (x17 + a5)) (-1))) (zand (hi 20 0 ((a4 + 16) + a5)) (hi 22 0 (x17 + a5)))) x18))) hr (zQ1v hr P))))))))))) ∧ (l2 = 2 → ((zInR (a3 + a5)) ∧ ((0 ≤ a3 + a5 ∧ a3 + a5 < 14448) ∧ (W0i mX4_beside [.inr (some (19, 0)), .inl a4, .inl a5] hi hr (fun (x20 : Int) => (0 ≤ a3 + a5 ∧ a3 + a5 < 14448) ∧ ((zInR (a5 + 1)) ∧ (WP mX4_keepStage 18 [some (.inr (some (19, 0))), some (.inl l1), some (.inl l2), some (.inl a3), some (.inl a4), some (.inl (a5 + 1)), some (.inl (hi 22 0 (x17 + a5))), some (.inl (zand (hi 20 0 (a4 + a5)) (zxor (hi 22 0 (x17 + a5)) (-1)))), some (.inl 0)] [] (zup hi 20 0 (a3 + a5) (zand (hi 20 0 (a3 + a5)) (zor (zor (zand (hi 20 0 (a4 + a5)) (zxor (hi 22 0 (x17 + a5)) (-1))) 0) x20))) hr (zQ1v hr P)))))))))))))))) :
    WP mX4_keepStage 18 [some (.inr (some (19, 0))), some (.inl l1), some (.inl l2), some (.inl a3), some (.inl a4), some (.inl a5), u6, u7, u8] [] hi hr (zQ1v hr P) :=
  WP.iload (pc2 := 20) (i := 5) rfl (by decide +kernel) rfl <|
  WP.aload_n (pc2 := 21) (i := 0) rfl (by decide +kernel) rfl <|
  WP.getI (pc2 := 24) rfl (by decide +kernel) zc_4 zSh_19 (by decide) rfl lf_X4_51 rfl rfl <|
  WP.icmp_ge (pc2 := 27) (off := 94) (tgt := 118) rfl (by decide +kernel) (by decide) (fun h26 => have f27 := F.1 h26
  WP.vret (by decide +kernel) rfl ⟨rfl, rfl, f27⟩) (fun h26 => have f28 := F.2 h26
  WP.aload_n (pc2 := 28) (i := 0) rfl (by decide +kernel) rfl <|
  WP.getR (pc2 := 31) rfl (by decide +kernel) zc_4 zSh_19 (by decide) rfl lf_X4_18 rfl (rs_19_2 hR) <|
  WP.iconst (pc2 := 32) (x := 0) rfl (by decide +kernel) (by decide) <|
  WP.iload_n (pc2 := 33) (i := 2) rfl (by decide +kernel) rfl <|
  WP.callS (y := mX4_keepStage) (index := 107) (pc2 := 36) (y' := mX4_rowOf) (vs := [.inl 0, .inl l2]) rfl (by decide +kernel) okX4_rowOf ⟨by decide, by decide⟩ ⟨lm_X4_107, ivX4_rowOf⟩ (Nat.le_of_ble_eq_true rfl) ⟨rfl, rfl⟩ rfl (WP.c0i f28 (fun x17 _ f25 =>
  WP.iload (pc2 := 38) (i := 5) rfl (by decide +kernel) rfl <|
  WP.iadd (pc2 := 39) rfl (by decide +kernel) f25.1 <|
  WP.iaload (pc2 := 40) rfl (by decide +kernel) zSh_22 rfl f25.2.1 rfl <|
  WP.istore (pc2 := 42) (i := 6) rfl (by decide +kernel) (by decide) <|
  WP.aload_n (pc2 := 43) (i := 0) rfl (by decide +kernel) rfl <|
  WP.getR (pc2 := 46) rfl (by decide +kernel) zc_4 zSh_19 (by decide) rfl lf_X4_11 rfl (rs_19_0 hR) <|
  WP.iload (pc2 := 48) (i := 4) rfl (by decide +kernel) rfl <|
  WP.iload (pc2 := 50) (i := 5) rfl (by decide +kernel) rfl <|
  WP.iadd (pc2 := 51) rfl (by decide +kernel) f25.2.2.1 <|
  WP.iaload (pc2 := 52) rfl (by decide +kernel) zSh_20 rfl f25.2.2.2.1 rfl <|
  WP.iload (pc2 := 54) (i := 6) rfl (by decide +kernel) rfl <|
  WP.iconst (pc2 := 55) (x := -1) rfl (by decide +kernel) (by decide) <|
  WP.ixor (pc2 := 56) rfl (by decide +kernel) <|
  WP.iand (pc2 := 57) rfl (by decide +kernel) <|
  WP.istore (pc2 := 59) (i := 7) rfl (by decide +kernel) (by decide) <|
  WP.iload_n (pc2 := 60) (i := 2) rfl (by decide +kernel) rfl <|
  WP.iconst (pc2 := 61) (x := 2) rfl (by decide +kernel) (by decide) <|
  WP.icmp_ne (pc2 := 64) (off := 7) (tgt := 68) rfl (by decide +kernel) (by decide) (fun h22 => have f23 := f25.2.2.2.2.1 h22
  WP.aload_n (pc2 := 69) (i := 0) rfl (by decide +kernel) rfl <|
  WP.getR (pc2 := 72) rfl (by decide +kernel) zc_4 zSh_19 (by decide) rfl lf_X4_11 rfl (rs_19_0 hR) <|
  WP.iload (pc2 := 74) (i := 4) rfl (by decide +kernel) rfl <|
  WP.bipush (pc2 := 76) (x := 16) rfl (by decide +kernel) ⟨by decide +kernel, by decide⟩ <|
  WP.iadd (pc2 := 77) rfl (by decide +kernel) f23.1 <|
  WP.iload (pc2 := 79) (i := 5) rfl (by decide +kernel) rfl <|
  WP.iadd (pc2 := 80) rfl (by decide +kernel) f23.2.1 <|
  WP.iaload (pc2 := 81) rfl (by decide +kernel) zSh_20 rfl f23.2.2.1 rfl <|
  WP.iload (pc2 := 83) (i := 6) rfl (by decide +kernel) rfl <|
  WP.iand (pc2 := 84) rfl (by decide +kernel) <|
  WP.istore (pc2 := 86) (i := 8) rfl (by decide +kernel) (by decide) <|
  WP.aload_n (pc2 := 87) (i := 0) rfl (by decide +kernel) rfl <|
  WP.getR (pc2 := 90) rfl (by decide +kernel) zc_4 zSh_19 (by decide) rfl lf_X4_11 rfl (rs_19_0 hR) <|
  WP.iload_n (pc2 := 91) (i := 3) rfl (by decide +kernel) rfl <|
  WP.iload (pc2 := 93) (i := 5) rfl (by decide +kernel) rfl <|
  WP.iadd (pc2 := 94) rfl (by decide +kernel) f23.2.2.2.1 <|
  WP.dup2 (pc2 := 95) rfl (by decide +kernel) <|
  WP.iaload (pc2 := 96) rfl (by decide +kernel) zSh_20 rfl f23.2.2.2.2.1 rfl <|
  WP.iload (pc2 := 98) (i := 7) rfl (by decide +kernel) rfl <|
  WP.iload (pc2 := 100) (i := 8) rfl (by decide +kernel) rfl <|
  WP.ior (pc2 := 101) rfl (by decide +kernel) <|
  WP.aload_n (pc2 := 102) (i := 0) rfl (by decide +kernel) rfl <|
  WP.iload (pc2 := 104) (i := 4) rfl (by decide +kernel) rfl <|
  WP.iload (pc2 := 106) (i := 5) rfl (by decide +kernel) rfl <|
  WP.callV (y := mX4_keepStage) (index := 135) (pc2 := 109) (y' := mX4_beside) (vs := [.inl a4, .inl a5]) rfl (by decide +kernel) okX4_beside ⟨by decide, by decide⟩ ⟨lm_X4_135, ivX4_beside⟩ zSh_19 zc_4 (Nat.le_of_ble_eq_true rfl) ⟨rfl, rfl⟩ rfl (WP.c0i f23.2.2.2.2.2 (fun x18 _ f19 =>
  WP.ior (pc2 := 110) rfl (by decide +kernel) <|
  WP.iand (pc2 := 111) rfl (by decide +kernel) <|
  WP.iastore (pc2 := 112) rfl (by decide +kernel) zSh_20 rfl f19.1 <|
  WP.iinc (pc2 := 115) (i := 5) (d := 1) rfl (by decide +kernel) rfl f19.2.1 <|
  WP.goto (off := -97) (tgt := 18) (by decide +kernel) (by decide) <|
  f19.2.2))) (fun h22 => have f24 := f25.2.2.2.2.2 h22
  WP.iconst (pc2 := 65) (x := 0) rfl (by decide +kernel) (by decide) <|
  WP.goto (off := 19) (tgt := 84) (by decide +kernel) (by decide) <|
  WP.istore (pc2 := 86) (i := 8) rfl (by decide +kernel) (by decide) <|
  WP.aload_n (pc2 := 87) (i := 0) rfl (by decide +kernel) rfl <|
  WP.getR (pc2 := 90) rfl (by decide +kernel) zc_4 zSh_19 (by decide) rfl lf_X4_11 rfl (rs_19_0 hR) <|
  WP.iload_n (pc2 := 91) (i := 3) rfl (by decide +kernel) rfl <|
  WP.iload (pc2 := 93) (i := 5) rfl (by decide +kernel) rfl <|
  WP.iadd (pc2 := 94) rfl (by decide +kernel) f24.1 <|
  WP.dup2 (pc2 := 95) rfl (by decide +kernel) <|
  WP.iaload (pc2 := 96) rfl (by decide +kernel) zSh_20 rfl f24.2.1 rfl <|
  WP.iload (pc2 := 98) (i := 7) rfl (by decide +kernel) rfl <|
  WP.iload (pc2 := 100) (i := 8) rfl (by decide +kernel) rfl <|
  WP.ior (pc2 := 101) rfl (by decide +kernel) <|
  WP.aload_n (pc2 := 102) (i := 0) rfl (by decide +kernel) rfl <|
  WP.iload (pc2 := 104) (i := 4) rfl (by decide +kernel) rfl <|
  WP.iload (pc2 := 106) (i := 5) rfl (by decide +kernel) rfl <|
  WP.callV (y := mX4_keepStage) (index := 135) (pc2 := 109) (y' := mX4_beside) (vs := [.inl a4, .inl a5]) rfl (by decide +kernel) okX4_beside ⟨by decide, by decide⟩ ⟨lm_X4_135, ivX4_beside⟩ zSh_19 zc_4 (Nat.le_of_ble_eq_true rfl) ⟨rfl, rfl⟩ rfl (WP.c0i f24.2.2 (fun x20 _ f21 =>
  WP.ior (pc2 := 110) rfl (by decide +kernel) <|
  WP.iand (pc2 := 111) rfl (by decide +kernel) <|
  WP.iastore (pc2 := 112) rfl (by decide +kernel) zSh_20 rfl f21.1 <|
  WP.iinc (pc2 := 115) (i := 5) (d := 1) rfl (by decide +kernel) rfl f21.2.1 <|
  WP.goto (off := -97) (tgt := 18) (by decide +kernel) (by decide) <|
  f21.2.2))))))
set_option maxRecDepth 100000 in
set_option maxHeartbeats 4000000 in
theorem GX4_followFirst {hi : zI} {hr : zR} {P : zI → Prop} (l1 : Int) (j2 : Int) (hj2 : 0 ≤ j2 ∧ j2 < 6)
    (F : W1v mX6_begin [.inr (some (25, j2)), .inl (hi 19 0 13), .inl (hi 19 0 10)] hi hr (fun (hi1 : zI) => WP mX4_followFirst 23 [some (.inr (some (19, 0))), some (.inl l1), some (.inr (some (25, j2))), some (.inl (hi1 19 0 13)), some (.inl 0), some (.inl 1), none, none] [] hi1 hr (zQ1v hr P))) :
    W1v mX4_followFirst [.inr (some (19, 0)), .inl l1, .inr (some (25, j2))] hi hr P :=
  WPm.of rfl (show WP mX4_followFirst 0 [some (.inr (some (19, 0))), some (.inl l1), some (.inr (some (25, j2))), none, none, none, none, none] [] hi hr (zQ1v hr P) from
  WP.aload_n (pc2 := 1) (i := 2) rfl (by decide +kernel) rfl <|
  WP.aload_n (pc2 := 2) (i := 0) rfl (by decide +kernel) rfl <|
  WP.getI (pc2 := 5) rfl (by decide +kernel) zc_4 zSh_19 (by decide) rfl lf_X4_70 rfl rfl <|
  WP.aload_n (pc2 := 6) (i := 0) rfl (by decide +kernel) rfl <|
  WP.getI (pc2 := 9) rfl (by decide +kernel) zc_4 zSh_19 (by decide) rfl lf_X4_57 rfl rfl <|
  WP.callV (y := mX4_followFirst) (index := 141) (pc2 := 12) (y' := mX6_begin) (vs := [.inl (hi 19 0 13), .inl (hi 19 0 10)]) rfl (by decide +kernel) okX6_begin ⟨by decide, by decide⟩ ⟨lm_X4_141, ivX6_begin⟩ zSh_25 zc_6 (Nat.le_of_ble_eq_true rfl) ⟨rfl, rfl⟩ rfl (WP.c1v F (fun hi1 f2 =>
  WP.aload_n (pc2 := 13) (i := 0) rfl (by decide +kernel) rfl <|
  WP.getI (pc2 := 16) rfl (by decide +kernel) zc_4 zSh_19 (by decide) rfl lf_X4_70 rfl rfl <|
  WP.istore_n (pc2 := 17) (i := 3) rfl (by decide +kernel) (by decide) <|
  WP.iconst (pc2 := 18) (x := 0) rfl (by decide +kernel) (by decide) <|
  WP.istore (pc2 := 20) (i := 4) rfl (by decide +kernel) (by decide) <|
  WP.iconst (pc2 := 21) (x := 1) rfl (by decide +kernel) (by decide) <|
  WP.istore (pc2 := 23) (i := 5) rfl (by decide +kernel) (by decide) <|
  f2)))

set_option maxRecDepth 100000 in
set_option maxHeartbeats 4000000 in
theorem GX4_followFirst_23 {hi : zI} {hr : zR} {P : zI → Prop} (l1 : Int) (j2 : Int) (a3 : Int) (a4 : Int) (a5 : Int) (u6 : Option zV) (u7 : Option zV) (hj2 : 0 ≤ j2 ∧ j2 < 6)
    (F : (l1 < a5 → P hi) ∧ (a5 ≤ l1 → ((a4 ≠ 0 → ((a4 ≠ 1 → (W0i mX4_rowOf [.inl a5, .inl a4] hi hr (fun (x129 : Int) => W0i mX4_isReached [.inr (some (19, 0)), .inl x129, .inl a3] hi hr (fun (x130 : Int) => (x130 ≠ 0 → (W1v mX6_addWait [.inr (some (25, j2)), .inl a3] hi hr (fun (hi131 : zI) => (zInR (a5 + 1)) ∧ (WP mX4_followFirst 23 [some (.inr (some (19, 0))), some (.inl l1), some (.inr (some (25, j2))), some (.inl a3), some (.inl a4), some (.inl (a5 + 1)), some (.inl 0), some (.inl a4)] [] hi131 hr (zQ1v hr P))))) ∧ (x130 = 0 → (W0i mX4_rowOf [.inl a5, .inl a4] hi hr (fun (x133 : Int) => W0i mX4_firstWayOn [.inr (some (19, 0)), .inl x133, .inl a3] hi hr (fun (x134 : Int) => W1v mX6_addMove [.inr (some (25, j2)), .inl x134] hi hr (fun (hi135 : zI) => (zInR (a5 + 1)) ∧ (WP mX4_followFirst 23 [some (.inr (some (19, 0))), some (.inl l1), some (.inr (some (25, j2))), some (.inl x134), some (.inl a4), some (.inl (a5 + 1)), some (.inl 0), some (.inl a4)] [] hi135 hr (zQ1v hr P))))))))))) ∧ (a4 = 1 → ((a3 ≠ hi 19 0 12 → (W0i mX4_rowOf [.inl a5, .inl a4] hi hr (fun (x144 : Int) => W0i mX4_isReached [.inr (some (19, 0)), .inl x144, .inl a3] hi hr (fun (x145 : Int) => (x145 ≠ 0 → (W1v mX6_addWait [.inr (some (25, j2)), .inl a3] hi hr (fun (hi146 : zI) => (zInR (a5 + 1)) ∧ (WP mX4_followFirst 23 [some (.inr (some (19, 0))), some (.inl l1), some (.inr (some (25, j2))), some (.inl a3), some (.inl a4), some (.inl (a5 + 1)), some (.inl 0), some (.inl a4)] [] hi146 hr (zQ1v hr P))))) ∧ (x145 = 0 → (W0i mX4_rowOf [.inl a5, .inl a4] hi hr (fun (x148 : Int) => W0i mX4_firstWayOn [.inr (some (19, 0)), .inl x148, .inl a3] hi hr (fun (x149 : Int) => W1v mX6_addMove [.inr (some (25, j2)), .inl x149] hi hr (fun (hi150 : zI) => (zInR (a5 + 1)) ∧ (WP mX4_followFirst 23 [some (.inr (some (19, 0))), some (.inl l1), some (.inr (some (25, j2))), some (.inl x149), some (.inl a4), some (.inl (a5 + 1)), some (.inl 0), some (.inl a4)] [] hi150 hr (zQ1v hr P))))))))))) ∧ (a3 = hi 19 0 12 → ((zInR (a4 + 1)) ∧ (W0i mX4_rowOf [.inl a5, .inl (a4 + 1)] hi hr (fun (x159 : Int) => W0i mX4_isReached [.inr (some (19, 0)), .inl x159, .inl a3] hi hr (fun (x160 : Int) => (x160 ≠ 0 → (W1v mX6_addTurn [.inr (some (25, j2)), .inl a3, .inl (a4 + 1)] hi hr (fun (hi161 : zI) => (zInR (a5 + 1)) ∧ (WP mX4_followFirst 23 [some (.inr (some (19, 0))), some (.inl l1), some (.inr (some (25, j2))), some (.inl a3), some (.inl (a4 + 1)), some (.inl (a5 + 1)), some (.inl 1), some (.inl (a4 + 1))] [] hi161 hr (zQ1v hr P))))) ∧ (x160 = 0 → (W0i mX4_rowOf [.inl a5, .inl a4] hi hr (fun (x163 : Int) => W0i mX4_firstWayOn [.inr (some (19, 0)), .inl x163, .inl a3] hi hr (fun (x164 : Int) => W1v mX6_addMove [.inr (some (25, j2)), .inl x164] hi hr (fun (hi165 : zI) => (zInR (a5 + 1)) ∧ (WP mX4_followFirst 23 [some (.inr (some (19, 0))), some (.inl l1), some (.inr (some (25, j2))), some (.inl x164), some (.inl a4), some (.inl (a5 + 1)), some (.inl 1), some (.inl (a4 + 1))] [] hi165 hr (zQ1v hr P)))))))))))))))) ∧ (a4 = 0 → ((a3 = hi 19 0 11 → ((zInR (a4 + 1)) ∧ (W0i mX4_rowOf [.inl a5, .inl (a4 + 1)] hi hr (fun (x180 : Int) => W0i mX4_isReached [.inr (some (19, 0)), .inl x180, .inl a3] hi hr (fun (x181 : Int) => (x181 ≠ 0 → (W1v mX6_addTurn [.inr (some (25, j2)), .inl a3, .inl (a4 + 1)] hi hr (fun (hi182 : zI) => (zInR (a5 + 1)) ∧ (WP mX4_followFirst 23 [some (.inr (some (19, 0))), some (.inl l1), some (.inr (some (25, j2))), some (.inl a3), some (.inl (a4 + 1)), some (.inl (a5 + 1)), some (.inl 1), some (.inl (a4 + 1))] [] hi182 hr (zQ1v hr P))))) ∧ (x181 = 0 → (W0i mX4_rowOf [.inl a5, .inl a4] hi hr (fun (x184 : Int) => W0i mX4_firstWayOn [.inr (some (19, 0)), .inl x184, .inl a3] hi hr (fun (x185 : Int) => W1v mX6_addMove [.inr (some (25, j2)), .inl x185] hi hr (fun (hi186 : zI) => (zInR (a5 + 1)) ∧ (WP mX4_followFirst 23 [some (.inr (some (19, 0))), some (.inl l1), some (.inr (some (25, j2))), some (.inl x185), some (.inl a4), some (.inl (a5 + 1)), some (.inl 1), some (.inl (a4 + 1))] [] hi186 hr (zQ1v hr P)))))))))))) ∧ (a3 ≠ hi 19 0 11 → ((a4 ≠ 1 → (W0i mX4_rowOf [.inl a5, .inl a4] hi hr (fun (x195 : Int) => W0i mX4_isReached [.inr (some (19, 0)), .inl x195, .inl a3] hi hr (fun (x196 : Int) => (x196 ≠ 0 → (W1v mX6_addWait [.inr (some (25, j2)), .inl a3] hi hr (fun (hi197 : zI) => (zInR (a5 + 1)) ∧ (WP mX4_followFirst 23 [some (.inr (some (19, 0))), some (.inl l1), some (.inr (some (25, j2))), some (.inl a3), some (.inl a4), some (.inl (a5 + 1)), some (.inl 0), some (.inl a4)] [] hi197 hr (zQ1v hr P))))) ∧ (x196 = 0 → (W0i mX4_rowOf [.inl a5, .inl a4] hi hr (fun (x199 : Int) => W0i mX4_firstWayOn [.inr (some (19, 0)), .inl x199, .inl a3] hi hr (fun (x200 : Int) => W1v mX6_addMove [.inr (some (25, j2)), .inl x200] hi hr (fun (hi201 : zI) => (zInR (a5 + 1)) ∧ (WP mX4_followFirst 23 [some (.inr (some (19, 0))), some (.inl l1), some (.inr (some (25, j2))), some (.inl x200), some (.inl a4), some (.inl (a5 + 1)), some (.inl 0), some (.inl a4)] [] hi201 hr (zQ1v hr P))))))))))) ∧ (a4 = 1 → ((a3 ≠ hi 19 0 12 → (W0i mX4_rowOf [.inl a5, .inl a4] hi hr (fun (x210 : Int) => W0i mX4_isReached [.inr (some (19, 0)), .inl x210, .inl a3] hi hr (fun (x211 : Int) => (x211 ≠ 0 → (W1v mX6_addWait [.inr (some (25, j2)), .inl a3] hi hr (fun (hi212 : zI) => (zInR (a5 + 1)) ∧ (WP mX4_followFirst 23 [some (.inr (some (19, 0))), some (.inl l1), some (.inr (some (25, j2))), some (.inl a3), some (.inl a4), some (.inl (a5 + 1)), some (.inl 0), some (.inl a4)] [] hi212 hr (zQ1v hr P))))) ∧ (x211 = 0 → (W0i mX4_rowOf [.inl a5, .inl a4] hi hr (fun (x214 : Int) => W0i mX4_firstWayOn [.inr (some (19, 0)), .inl x214, .inl a3] hi hr (fun (x215 : Int) => W1v mX6_addMove [.inr (some (25, j2)), .inl x215] hi hr (fun (hi216 : zI) => (zInR (a5 + 1)) ∧ (WP mX4_followFirst 23 [some (.inr (some (19, 0))), some (.inl l1), some (.inr (some (25, j2))), some (.inl x215), some (.inl a4), some (.inl (a5 + 1)), some (.inl 0), some (.inl a4)] [] hi216 hr (zQ1v hr P))))))))))) ∧ (a3 = hi 19 0 12 → ((zInR (a4 + 1)) ∧ (W0i mX4_rowOf [.inl a5, .inl (a4 + 1)] hi hr (fun (x225 : Int) => W0i mX4_isReached [.inr (some (19, 0)), .inl x225, .inl a3] hi hr (fun (x226 : Int) => (x226 ≠ 0 → (W1v mX6_addTurn [.inr (some (25, j2)), .inl a3, .inl (a4 + 1)] hi hr (fun (hi227 : zI) => (zInR (a5 + 1)) ∧ (WP mX4_followFirst 23 [some (.inr (some (19, 0))), some (.inl l1), some (.inr (some (25, j2))), some (.inl a3), some (.inl (a4 + 1)), some (.inl (a5 + 1)), some (.inl 1), some (.inl (a4 + 1))] [] hi227 hr (zQ1v hr P))))) ∧ (x226 = 0 → (W0i mX4_rowOf [.inl a5, .inl a4] hi hr (fun (x229 : Int) => W0i mX4_firstWayOn [.inr (some (19, 0)), .inl x229, .inl a3] hi hr (fun (x230 : Int) => W1v mX6_addMove [.inr (some (25, j2)), .inl x230] hi hr (fun (hi231 : zI) => (zInR (a5 + 1)) ∧ (WP mX4_followFirst 23 [some (.inr (some (19, 0))), some (.inl l1), some (.inr (some (25, j2))), some (.inl x230), some (.inl a4), some (.inl (a5 + 1)), some (.inl 1), some (.inl (a4 + 1))] [] hi231 hr (zQ1v hr P))))))))))))))))))))) :
    WP mX4_followFirst 23 [some (.inr (some (19, 0))), some (.inl l1), some (.inr (some (25, j2))), some (.inl a3), some (.inl a4), some (.inl a5), u6, u7] [] hi hr (zQ1v hr P) :=
  WP.iload (pc2 := 25) (i := 5) rfl (by decide +kernel) rfl <|
  WP.iload_n (pc2 := 26) (i := 1) rfl (by decide +kernel) rfl <|
  WP.icmp_gt (pc2 := 29) (off := 119) (tgt := 145) rfl (by decide +kernel) (by decide) (fun h252 => have f253 := F.1 h252
  WP.vret (by decide +kernel) rfl ⟨rfl, rfl, f253⟩) (fun h252 => have f254 := F.2 h252
  WP.iload (pc2 := 31) (i := 4) rfl (by decide +kernel) rfl <|
  WP.if_ne (pc2 := 34) (off := 11) (tgt := 42) rfl (by decide +kernel) (by decide) (fun h249 => have f250 := f254.1 h249
  WP.iload (pc2 := 44) (i := 4) rfl (by decide +kernel) rfl <|
  WP.iconst (pc2 := 45) (x := 1) rfl (by decide +kernel) (by decide) <|
  WP.icmp_ne (pc2 := 48) (off := 15) (tgt := 60) rfl (by decide +kernel) (by decide) (fun h177 => have f178 := f250.1 h177
  WP.iconst (pc2 := 61) (x := 0) rfl (by decide +kernel) (by decide) <|
  WP.istore (pc2 := 63) (i := 6) rfl (by decide +kernel) (by decide) <|
  WP.iload (pc2 := 65) (i := 6) rfl (by decide +kernel) rfl <|
  WP.if_eq (pc2 := 68) (off := 10) (tgt := 75) rfl (by decide +kernel) (by decide) (fun _ =>
  WP.iload (pc2 := 77) (i := 4) rfl (by decide +kernel) rfl <|
  WP.istore (pc2 := 79) (i := 7) rfl (by decide +kernel) (by decide) <|
  WP.aload_n (pc2 := 80) (i := 0) rfl (by decide +kernel) rfl <|
  WP.iload (pc2 := 82) (i := 5) rfl (by decide +kernel) rfl <|
  WP.iload (pc2 := 84) (i := 7) rfl (by decide +kernel) rfl <|
  WP.callS (y := mX4_followFirst) (index := 107) (pc2 := 87) (y' := mX4_rowOf) (vs := [.inl a5, .inl a4]) rfl (by decide +kernel) okX4_rowOf ⟨by decide, by decide⟩ ⟨lm_X4_107, ivX4_rowOf⟩ (Nat.le_of_ble_eq_true rfl) ⟨rfl, rfl⟩ rfl (WP.c0i f178 (fun x129 _ f143 =>
  WP.iload_n (pc2 := 88) (i := 3) rfl (by decide +kernel) rfl <|
  WP.callV (y := mX4_followFirst) (index := 123) (pc2 := 91) (y' := mX4_isReached) (vs := [.inl x129, .inl a3]) rfl (by decide +kernel) okX4_isReached ⟨by decide, by decide⟩ ⟨lm_X4_123, ivX4_isReached⟩ zSh_19 zc_4 (Nat.le_of_ble_eq_true rfl) ⟨rfl, rfl⟩ rfl (WP.c0i f143 (fun x130 _ f142 =>
  WP.if_ne (pc2 := 94) (off := 24) (tgt := 115) rfl (by decide +kernel) (by decide) (fun h139 => have f140 := f142.1 h139
  WP.iload (pc2 := 117) (i := 6) rfl (by decide +kernel) rfl <|
  WP.if_eq (pc2 := 120) (off := 17) (tgt := 134) rfl (by decide +kernel) (by decide) (fun _ =>
  WP.aload_n (pc2 := 135) (i := 2) rfl (by decide +kernel) rfl <|
  WP.iload_n (pc2 := 136) (i := 3) rfl (by decide +kernel) rfl <|
  WP.callV (y := mX4_followFirst) (index := 153) (pc2 := 139) (y' := mX6_addWait) (vs := [.inl a3]) rfl (by decide +kernel) okX6_addWait ⟨by decide, by decide⟩ ⟨lm_X4_153, ivX6_addWait⟩ zSh_25 zc_6 (Nat.le_of_ble_eq_true rfl) ⟨rfl, rfl⟩ rfl (WP.c1v f140 (fun hi131 f132 =>
  WP.iinc (pc2 := 142) (i := 5) (d := 1) rfl (by decide +kernel) rfl f132.1 <|
  WP.goto (off := -119) (tgt := 23) (by decide +kernel) (by decide) <|
  f132.2))) (fun h => absurd h (by decide))) (fun h139 => have f141 := f142.2 h139
  WP.aload_n (pc2 := 95) (i := 0) rfl (by decide +kernel) rfl <|
  WP.iload (pc2 := 97) (i := 5) rfl (by decide +kernel) rfl <|
  WP.iload (pc2 := 99) (i := 4) rfl (by decide +kernel) rfl <|
  WP.callS (y := mX4_followFirst) (index := 107) (pc2 := 102) (y' := mX4_rowOf) (vs := [.inl a5, .inl a4]) rfl (by decide +kernel) okX4_rowOf ⟨by decide, by decide⟩ ⟨lm_X4_107, ivX4_rowOf⟩ (Nat.le_of_ble_eq_true rfl) ⟨rfl, rfl⟩ rfl (WP.c0i f141 (fun x133 _ f138 =>
  WP.iload_n (pc2 := 103) (i := 3) rfl (by decide +kernel) rfl <|
  WP.callV (y := mX4_followFirst) (index := 144) (pc2 := 106) (y' := mX4_firstWayOn) (vs := [.inl x133, .inl a3]) rfl (by decide +kernel) okX4_firstWayOn ⟨by decide, by decide⟩ ⟨lm_X4_144, ivX4_firstWayOn⟩ zSh_19 zc_4 (Nat.le_of_ble_eq_true rfl) ⟨rfl, rfl⟩ rfl (WP.c0i f138 (fun x134 _ f137 =>
  WP.istore_n (pc2 := 107) (i := 3) rfl (by decide +kernel) (by decide) <|
  WP.aload_n (pc2 := 108) (i := 2) rfl (by decide +kernel) rfl <|
  WP.iload_n (pc2 := 109) (i := 3) rfl (by decide +kernel) rfl <|
  WP.callV (y := mX4_followFirst) (index := 147) (pc2 := 112) (y' := mX6_addMove) (vs := [.inl x134]) rfl (by decide +kernel) okX6_addMove ⟨by decide, by decide⟩ ⟨lm_X4_147, ivX6_addMove⟩ zSh_25 zc_6 (Nat.le_of_ble_eq_true rfl) ⟨rfl, rfl⟩ rfl (WP.c1v f137 (fun hi135 f136 =>
  WP.goto (off := 27) (tgt := 139) (by decide +kernel) (by decide) <|
  WP.iinc (pc2 := 142) (i := 5) (d := 1) rfl (by decide +kernel) rfl f136.1 <|
  WP.goto (off := -119) (tgt := 23) (by decide +kernel) (by decide) <|
  f136.2)))))))))))) (fun h => absurd h (by decide))) (fun h177 => have f179 := f250.2 h177
  WP.iload_n (pc2 := 49) (i := 3) rfl (by decide +kernel) rfl <|
  WP.aload_n (pc2 := 50) (i := 0) rfl (by decide +kernel) rfl <|
  WP.getI (pc2 := 53) rfl (by decide +kernel) zc_4 zSh_19 (by decide) rfl lf_X4_63 rfl rfl <|
  WP.icmp_ne (pc2 := 56) (off := 7) (tgt := 60) rfl (by decide +kernel) (by decide) (fun h174 => have f175 := f179.1 h174
  WP.iconst (pc2 := 61) (x := 0) rfl (by decide +kernel) (by decide) <|
  WP.istore (pc2 := 63) (i := 6) rfl (by decide +kernel) (by decide) <|
  WP.iload (pc2 := 65) (i := 6) rfl (by decide +kernel) rfl <|
  WP.if_eq (pc2 := 68) (off := 10) (tgt := 75) rfl (by decide +kernel) (by decide) (fun _ =>
  WP.iload (pc2 := 77) (i := 4) rfl (by decide +kernel) rfl <|
  WP.istore (pc2 := 79) (i := 7) rfl (by decide +kernel) (by decide) <|
  WP.aload_n (pc2 := 80) (i := 0) rfl (by decide +kernel) rfl <|
  WP.iload (pc2 := 82) (i := 5) rfl (by decide +kernel) rfl <|
  WP.iload (pc2 := 84) (i := 7) rfl (by decide +kernel) rfl <|
  WP.callS (y := mX4_followFirst) (index := 107) (pc2 := 87) (y' := mX4_rowOf) (vs := [.inl a5, .inl a4]) rfl (by decide +kernel) okX4_rowOf ⟨by decide, by decide⟩ ⟨lm_X4_107, ivX4_rowOf⟩ (Nat.le_of_ble_eq_true rfl) ⟨rfl, rfl⟩ rfl (WP.c0i f175 (fun x144 _ f158 =>
  WP.iload_n (pc2 := 88) (i := 3) rfl (by decide +kernel) rfl <|
  WP.callV (y := mX4_followFirst) (index := 123) (pc2 := 91) (y' := mX4_isReached) (vs := [.inl x144, .inl a3]) rfl (by decide +kernel) okX4_isReached ⟨by decide, by decide⟩ ⟨lm_X4_123, ivX4_isReached⟩ zSh_19 zc_4 (Nat.le_of_ble_eq_true rfl) ⟨rfl, rfl⟩ rfl (WP.c0i f158 (fun x145 _ f157 =>
  WP.if_ne (pc2 := 94) (off := 24) (tgt := 115) rfl (by decide +kernel) (by decide) (fun h154 => have f155 := f157.1 h154
  WP.iload (pc2 := 117) (i := 6) rfl (by decide +kernel) rfl <|
  WP.if_eq (pc2 := 120) (off := 17) (tgt := 134) rfl (by decide +kernel) (by decide) (fun _ =>
  WP.aload_n (pc2 := 135) (i := 2) rfl (by decide +kernel) rfl <|
  WP.iload_n (pc2 := 136) (i := 3) rfl (by decide +kernel) rfl <|
  WP.callV (y := mX4_followFirst) (index := 153) (pc2 := 139) (y' := mX6_addWait) (vs := [.inl a3]) rfl (by decide +kernel) okX6_addWait ⟨by decide, by decide⟩ ⟨lm_X4_153, ivX6_addWait⟩ zSh_25 zc_6 (Nat.le_of_ble_eq_true rfl) ⟨rfl, rfl⟩ rfl (WP.c1v f155 (fun hi146 f147 =>
  WP.iinc (pc2 := 142) (i := 5) (d := 1) rfl (by decide +kernel) rfl f147.1 <|
  WP.goto (off := -119) (tgt := 23) (by decide +kernel) (by decide) <|
  f147.2))) (fun h => absurd h (by decide))) (fun h154 => have f156 := f157.2 h154
  WP.aload_n (pc2 := 95) (i := 0) rfl (by decide +kernel) rfl <|
  WP.iload (pc2 := 97) (i := 5) rfl (by decide +kernel) rfl <|
  WP.iload (pc2 := 99) (i := 4) rfl (by decide +kernel) rfl <|
  WP.callS (y := mX4_followFirst) (index := 107) (pc2 := 102) (y' := mX4_rowOf) (vs := [.inl a5, .inl a4]) rfl (by decide +kernel) okX4_rowOf ⟨by decide, by decide⟩ ⟨lm_X4_107, ivX4_rowOf⟩ (Nat.le_of_ble_eq_true rfl) ⟨rfl, rfl⟩ rfl (WP.c0i f156 (fun x148 _ f153 =>
  WP.iload_n (pc2 := 103) (i := 3) rfl (by decide +kernel) rfl <|
  WP.callV (y := mX4_followFirst) (index := 144) (pc2 := 106) (y' := mX4_firstWayOn) (vs := [.inl x148, .inl a3]) rfl (by decide +kernel) okX4_firstWayOn ⟨by decide, by decide⟩ ⟨lm_X4_144, ivX4_firstWayOn⟩ zSh_19 zc_4 (Nat.le_of_ble_eq_true rfl) ⟨rfl, rfl⟩ rfl (WP.c0i f153 (fun x149 _ f152 =>
  WP.istore_n (pc2 := 107) (i := 3) rfl (by decide +kernel) (by decide) <|
  WP.aload_n (pc2 := 108) (i := 2) rfl (by decide +kernel) rfl <|
  WP.iload_n (pc2 := 109) (i := 3) rfl (by decide +kernel) rfl <|
  WP.callV (y := mX4_followFirst) (index := 147) (pc2 := 112) (y' := mX6_addMove) (vs := [.inl x149]) rfl (by decide +kernel) okX6_addMove ⟨by decide, by decide⟩ ⟨lm_X4_147, ivX6_addMove⟩ zSh_25 zc_6 (Nat.le_of_ble_eq_true rfl) ⟨rfl, rfl⟩ rfl (WP.c1v f152 (fun hi150 f151 =>
  WP.goto (off := 27) (tgt := 139) (by decide +kernel) (by decide) <|
  WP.iinc (pc2 := 142) (i := 5) (d := 1) rfl (by decide +kernel) rfl f151.1 <|
  WP.goto (off := -119) (tgt := 23) (by decide +kernel) (by decide) <|
  f151.2)))))))))))) (fun h => absurd h (by decide))) (fun h174 => have f176 := f179.2 h174
  WP.iconst (pc2 := 57) (x := 1) rfl (by decide +kernel) (by decide) <|
  WP.goto (off := 4) (tgt := 61) (by decide +kernel) (by decide) <|
  WP.istore (pc2 := 63) (i := 6) rfl (by decide +kernel) (by decide) <|
  WP.iload (pc2 := 65) (i := 6) rfl (by decide +kernel) rfl <|
  WP.if_eq (pc2 := 68) (off := 10) (tgt := 75) rfl (by decide +kernel) (by decide) (fun h => absurd h (by decide)) (fun _ =>
  WP.iload (pc2 := 70) (i := 4) rfl (by decide +kernel) rfl <|
  WP.iconst (pc2 := 71) (x := 1) rfl (by decide +kernel) (by decide) <|
  WP.iadd (pc2 := 72) rfl (by decide +kernel) f176.1 <|
  WP.goto (off := 5) (tgt := 77) (by decide +kernel) (by decide) <|
  WP.istore (pc2 := 79) (i := 7) rfl (by decide +kernel) (by decide) <|
  WP.aload_n (pc2 := 80) (i := 0) rfl (by decide +kernel) rfl <|
  WP.iload (pc2 := 82) (i := 5) rfl (by decide +kernel) rfl <|
  WP.iload (pc2 := 84) (i := 7) rfl (by decide +kernel) rfl <|
  WP.callS (y := mX4_followFirst) (index := 107) (pc2 := 87) (y' := mX4_rowOf) (vs := [.inl a5, .inl (a4 + 1)]) rfl (by decide +kernel) okX4_rowOf ⟨by decide, by decide⟩ ⟨lm_X4_107, ivX4_rowOf⟩ (Nat.le_of_ble_eq_true rfl) ⟨rfl, rfl⟩ rfl (WP.c0i f176.2 (fun x159 _ f173 =>
  WP.iload_n (pc2 := 88) (i := 3) rfl (by decide +kernel) rfl <|
  WP.callV (y := mX4_followFirst) (index := 123) (pc2 := 91) (y' := mX4_isReached) (vs := [.inl x159, .inl a3]) rfl (by decide +kernel) okX4_isReached ⟨by decide, by decide⟩ ⟨lm_X4_123, ivX4_isReached⟩ zSh_19 zc_4 (Nat.le_of_ble_eq_true rfl) ⟨rfl, rfl⟩ rfl (WP.c0i f173 (fun x160 _ f172 =>
  WP.if_ne (pc2 := 94) (off := 24) (tgt := 115) rfl (by decide +kernel) (by decide) (fun h169 => have f170 := f172.1 h169
  WP.iload (pc2 := 117) (i := 6) rfl (by decide +kernel) rfl <|
  WP.if_eq (pc2 := 120) (off := 17) (tgt := 134) rfl (by decide +kernel) (by decide) (fun h => absurd h (by decide)) (fun _ =>
  WP.iload (pc2 := 122) (i := 7) rfl (by decide +kernel) rfl <|
  WP.istore (pc2 := 124) (i := 4) rfl (by decide +kernel) (by decide) <|
  WP.aload_n (pc2 := 125) (i := 2) rfl (by decide +kernel) rfl <|
  WP.iload_n (pc2 := 126) (i := 3) rfl (by decide +kernel) rfl <|
  WP.iload (pc2 := 128) (i := 4) rfl (by decide +kernel) rfl <|
  WP.callV (y := mX4_followFirst) (index := 150) (pc2 := 131) (y' := mX6_addTurn) (vs := [.inl a3, .inl (a4 + 1)]) rfl (by decide +kernel) okX6_addTurn ⟨by decide, by decide⟩ ⟨lm_X4_150, ivX6_addTurn⟩ zSh_25 zc_6 (Nat.le_of_ble_eq_true rfl) ⟨rfl, rfl⟩ rfl (WP.c1v f170 (fun hi161 f162 =>
  WP.goto (off := 8) (tgt := 139) (by decide +kernel) (by decide) <|
  WP.iinc (pc2 := 142) (i := 5) (d := 1) rfl (by decide +kernel) rfl f162.1 <|
  WP.goto (off := -119) (tgt := 23) (by decide +kernel) (by decide) <|
  f162.2)))) (fun h169 => have f171 := f172.2 h169
  WP.aload_n (pc2 := 95) (i := 0) rfl (by decide +kernel) rfl <|
  WP.iload (pc2 := 97) (i := 5) rfl (by decide +kernel) rfl <|
  WP.iload (pc2 := 99) (i := 4) rfl (by decide +kernel) rfl <|
  WP.callS (y := mX4_followFirst) (index := 107) (pc2 := 102) (y' := mX4_rowOf) (vs := [.inl a5, .inl a4]) rfl (by decide +kernel) okX4_rowOf ⟨by decide, by decide⟩ ⟨lm_X4_107, ivX4_rowOf⟩ (Nat.le_of_ble_eq_true rfl) ⟨rfl, rfl⟩ rfl (WP.c0i f171 (fun x163 _ f168 =>
  WP.iload_n (pc2 := 103) (i := 3) rfl (by decide +kernel) rfl <|
  WP.callV (y := mX4_followFirst) (index := 144) (pc2 := 106) (y' := mX4_firstWayOn) (vs := [.inl x163, .inl a3]) rfl (by decide +kernel) okX4_firstWayOn ⟨by decide, by decide⟩ ⟨lm_X4_144, ivX4_firstWayOn⟩ zSh_19 zc_4 (Nat.le_of_ble_eq_true rfl) ⟨rfl, rfl⟩ rfl (WP.c0i f168 (fun x164 _ f167 =>
  WP.istore_n (pc2 := 107) (i := 3) rfl (by decide +kernel) (by decide) <|
  WP.aload_n (pc2 := 108) (i := 2) rfl (by decide +kernel) rfl <|
  WP.iload_n (pc2 := 109) (i := 3) rfl (by decide +kernel) rfl <|
  WP.callV (y := mX4_followFirst) (index := 147) (pc2 := 112) (y' := mX6_addMove) (vs := [.inl x164]) rfl (by decide +kernel) okX6_addMove ⟨by decide, by decide⟩ ⟨lm_X4_147, ivX6_addMove⟩ zSh_25 zc_6 (Nat.le_of_ble_eq_true rfl) ⟨rfl, rfl⟩ rfl (WP.c1v f167 (fun hi165 f166 =>
  WP.goto (off := 27) (tgt := 139) (by decide +kernel) (by decide) <|
  WP.iinc (pc2 := 142) (i := 5) (d := 1) rfl (by decide +kernel) rfl f166.1 <|
  WP.goto (off := -119) (tgt := 23) (by decide +kernel) (by decide) <|
  f166.2))))))))))))))) (fun h249 => have f251 := f254.2 h249
  WP.iload_n (pc2 := 35) (i := 3) rfl (by decide +kernel) rfl <|
  WP.aload_n (pc2 := 36) (i := 0) rfl (by decide +kernel) rfl <|
  WP.getI (pc2 := 39) rfl (by decide +kernel) zc_4 zSh_19 (by decide) rfl lf_X4_60 rfl rfl <|
  WP.icmp_eq (pc2 := 42) (off := 17) (tgt := 56) rfl (by decide +kernel) (by decide) (fun h246 => have f247 := f251.1 h246
  WP.iconst (pc2 := 57) (x := 1) rfl (by decide +kernel) (by decide) <|
  WP.goto (off := 4) (tgt := 61) (by decide +kernel) (by decide) <|
  WP.istore (pc2 := 63) (i := 6) rfl (by decide +kernel) (by decide) <|
  WP.iload (pc2 := 65) (i := 6) rfl (by decide +kernel) rfl <|
  WP.if_eq (pc2 := 68) (off := 10) (tgt := 75) rfl (by decide +kernel) (by decide) (fun h => absurd h (by decide)) (fun _ =>
  WP.iload (pc2 := 70) (i := 4) rfl (by decide +kernel) rfl <|
  WP.iconst (pc2 := 71) (x := 1) rfl (by decide +kernel) (by decide) <|
  WP.iadd (pc2 := 72) rfl (by decide +kernel) f247.1 <|
  WP.goto (off := 5) (tgt := 77) (by decide +kernel) (by decide) <|
  WP.istore (pc2 := 79) (i := 7) rfl (by decide +kernel) (by decide) <|
  WP.aload_n (pc2 := 80) (i := 0) rfl (by decide +kernel) rfl <|
  WP.iload (pc2 := 82) (i := 5) rfl (by decide +kernel) rfl <|
  WP.iload (pc2 := 84) (i := 7) rfl (by decide +kernel) rfl <|
  WP.callS (y := mX4_followFirst) (index := 107) (pc2 := 87) (y' := mX4_rowOf) (vs := [.inl a5, .inl (a4 + 1)]) rfl (by decide +kernel) okX4_rowOf ⟨by decide, by decide⟩ ⟨lm_X4_107, ivX4_rowOf⟩ (Nat.le_of_ble_eq_true rfl) ⟨rfl, rfl⟩ rfl (WP.c0i f247.2 (fun x180 _ f194 =>
  WP.iload_n (pc2 := 88) (i := 3) rfl (by decide +kernel) rfl <|
  WP.callV (y := mX4_followFirst) (index := 123) (pc2 := 91) (y' := mX4_isReached) (vs := [.inl x180, .inl a3]) rfl (by decide +kernel) okX4_isReached ⟨by decide, by decide⟩ ⟨lm_X4_123, ivX4_isReached⟩ zSh_19 zc_4 (Nat.le_of_ble_eq_true rfl) ⟨rfl, rfl⟩ rfl (WP.c0i f194 (fun x181 _ f193 =>
  WP.if_ne (pc2 := 94) (off := 24) (tgt := 115) rfl (by decide +kernel) (by decide) (fun h190 => have f191 := f193.1 h190
  WP.iload (pc2 := 117) (i := 6) rfl (by decide +kernel) rfl <|
  WP.if_eq (pc2 := 120) (off := 17) (tgt := 134) rfl (by decide +kernel) (by decide) (fun h => absurd h (by decide)) (fun _ =>
  WP.iload (pc2 := 122) (i := 7) rfl (by decide +kernel) rfl <|
  WP.istore (pc2 := 124) (i := 4) rfl (by decide +kernel) (by decide) <|
  WP.aload_n (pc2 := 125) (i := 2) rfl (by decide +kernel) rfl <|
  WP.iload_n (pc2 := 126) (i := 3) rfl (by decide +kernel) rfl <|
  WP.iload (pc2 := 128) (i := 4) rfl (by decide +kernel) rfl <|
  WP.callV (y := mX4_followFirst) (index := 150) (pc2 := 131) (y' := mX6_addTurn) (vs := [.inl a3, .inl (a4 + 1)]) rfl (by decide +kernel) okX6_addTurn ⟨by decide, by decide⟩ ⟨lm_X4_150, ivX6_addTurn⟩ zSh_25 zc_6 (Nat.le_of_ble_eq_true rfl) ⟨rfl, rfl⟩ rfl (WP.c1v f191 (fun hi182 f183 =>
  WP.goto (off := 8) (tgt := 139) (by decide +kernel) (by decide) <|
  WP.iinc (pc2 := 142) (i := 5) (d := 1) rfl (by decide +kernel) rfl f183.1 <|
  WP.goto (off := -119) (tgt := 23) (by decide +kernel) (by decide) <|
  f183.2)))) (fun h190 => have f192 := f193.2 h190
  WP.aload_n (pc2 := 95) (i := 0) rfl (by decide +kernel) rfl <|
  WP.iload (pc2 := 97) (i := 5) rfl (by decide +kernel) rfl <|
  WP.iload (pc2 := 99) (i := 4) rfl (by decide +kernel) rfl <|
  WP.callS (y := mX4_followFirst) (index := 107) (pc2 := 102) (y' := mX4_rowOf) (vs := [.inl a5, .inl a4]) rfl (by decide +kernel) okX4_rowOf ⟨by decide, by decide⟩ ⟨lm_X4_107, ivX4_rowOf⟩ (Nat.le_of_ble_eq_true rfl) ⟨rfl, rfl⟩ rfl (WP.c0i f192 (fun x184 _ f189 =>
  WP.iload_n (pc2 := 103) (i := 3) rfl (by decide +kernel) rfl <|
  WP.callV (y := mX4_followFirst) (index := 144) (pc2 := 106) (y' := mX4_firstWayOn) (vs := [.inl x184, .inl a3]) rfl (by decide +kernel) okX4_firstWayOn ⟨by decide, by decide⟩ ⟨lm_X4_144, ivX4_firstWayOn⟩ zSh_19 zc_4 (Nat.le_of_ble_eq_true rfl) ⟨rfl, rfl⟩ rfl (WP.c0i f189 (fun x185 _ f188 =>
  WP.istore_n (pc2 := 107) (i := 3) rfl (by decide +kernel) (by decide) <|
  WP.aload_n (pc2 := 108) (i := 2) rfl (by decide +kernel) rfl <|
  WP.iload_n (pc2 := 109) (i := 3) rfl (by decide +kernel) rfl <|
  WP.callV (y := mX4_followFirst) (index := 147) (pc2 := 112) (y' := mX6_addMove) (vs := [.inl x185]) rfl (by decide +kernel) okX6_addMove ⟨by decide, by decide⟩ ⟨lm_X4_147, ivX6_addMove⟩ zSh_25 zc_6 (Nat.le_of_ble_eq_true rfl) ⟨rfl, rfl⟩ rfl (WP.c1v f188 (fun hi186 f187 =>
  WP.goto (off := 27) (tgt := 139) (by decide +kernel) (by decide) <|
  WP.iinc (pc2 := 142) (i := 5) (d := 1) rfl (by decide +kernel) rfl f187.1 <|
  WP.goto (off := -119) (tgt := 23) (by decide +kernel) (by decide) <|
  f187.2))))))))))))) (fun h246 => have f248 := f251.2 h246
  WP.iload (pc2 := 44) (i := 4) rfl (by decide +kernel) rfl <|
  WP.iconst (pc2 := 45) (x := 1) rfl (by decide +kernel) (by decide) <|
  WP.icmp_ne (pc2 := 48) (off := 15) (tgt := 60) rfl (by decide +kernel) (by decide) (fun h243 => have f244 := f248.1 h243
  WP.iconst (pc2 := 61) (x := 0) rfl (by decide +kernel) (by decide) <|
  WP.istore (pc2 := 63) (i := 6) rfl (by decide +kernel) (by decide) <|
  WP.iload (pc2 := 65) (i := 6) rfl (by decide +kernel) rfl <|
  WP.if_eq (pc2 := 68) (off := 10) (tgt := 75) rfl (by decide +kernel) (by decide) (fun _ =>
  WP.iload (pc2 := 77) (i := 4) rfl (by decide +kernel) rfl <|
  WP.istore (pc2 := 79) (i := 7) rfl (by decide +kernel) (by decide) <|
  WP.aload_n (pc2 := 80) (i := 0) rfl (by decide +kernel) rfl <|
  WP.iload (pc2 := 82) (i := 5) rfl (by decide +kernel) rfl <|
  WP.iload (pc2 := 84) (i := 7) rfl (by decide +kernel) rfl <|
  WP.callS (y := mX4_followFirst) (index := 107) (pc2 := 87) (y' := mX4_rowOf) (vs := [.inl a5, .inl a4]) rfl (by decide +kernel) okX4_rowOf ⟨by decide, by decide⟩ ⟨lm_X4_107, ivX4_rowOf⟩ (Nat.le_of_ble_eq_true rfl) ⟨rfl, rfl⟩ rfl (WP.c0i f244 (fun x195 _ f209 =>
  WP.iload_n (pc2 := 88) (i := 3) rfl (by decide +kernel) rfl <|
  WP.callV (y := mX4_followFirst) (index := 123) (pc2 := 91) (y' := mX4_isReached) (vs := [.inl x195, .inl a3]) rfl (by decide +kernel) okX4_isReached ⟨by decide, by decide⟩ ⟨lm_X4_123, ivX4_isReached⟩ zSh_19 zc_4 (Nat.le_of_ble_eq_true rfl) ⟨rfl, rfl⟩ rfl (WP.c0i f209 (fun x196 _ f208 =>
  WP.if_ne (pc2 := 94) (off := 24) (tgt := 115) rfl (by decide +kernel) (by decide) (fun h205 => have f206 := f208.1 h205
  WP.iload (pc2 := 117) (i := 6) rfl (by decide +kernel) rfl <|
  WP.if_eq (pc2 := 120) (off := 17) (tgt := 134) rfl (by decide +kernel) (by decide) (fun _ =>
  WP.aload_n (pc2 := 135) (i := 2) rfl (by decide +kernel) rfl <|
  WP.iload_n (pc2 := 136) (i := 3) rfl (by decide +kernel) rfl <|
  WP.callV (y := mX4_followFirst) (index := 153) (pc2 := 139) (y' := mX6_addWait) (vs := [.inl a3]) rfl (by decide +kernel) okX6_addWait ⟨by decide, by decide⟩ ⟨lm_X4_153, ivX6_addWait⟩ zSh_25 zc_6 (Nat.le_of_ble_eq_true rfl) ⟨rfl, rfl⟩ rfl (WP.c1v f206 (fun hi197 f198 =>
  WP.iinc (pc2 := 142) (i := 5) (d := 1) rfl (by decide +kernel) rfl f198.1 <|
  WP.goto (off := -119) (tgt := 23) (by decide +kernel) (by decide) <|
  f198.2))) (fun h => absurd h (by decide))) (fun h205 => have f207 := f208.2 h205
  WP.aload_n (pc2 := 95) (i := 0) rfl (by decide +kernel) rfl <|
  WP.iload (pc2 := 97) (i := 5) rfl (by decide +kernel) rfl <|
  WP.iload (pc2 := 99) (i := 4) rfl (by decide +kernel) rfl <|
  WP.callS (y := mX4_followFirst) (index := 107) (pc2 := 102) (y' := mX4_rowOf) (vs := [.inl a5, .inl a4]) rfl (by decide +kernel) okX4_rowOf ⟨by decide, by decide⟩ ⟨lm_X4_107, ivX4_rowOf⟩ (Nat.le_of_ble_eq_true rfl) ⟨rfl, rfl⟩ rfl (WP.c0i f207 (fun x199 _ f204 =>
  WP.iload_n (pc2 := 103) (i := 3) rfl (by decide +kernel) rfl <|
  WP.callV (y := mX4_followFirst) (index := 144) (pc2 := 106) (y' := mX4_firstWayOn) (vs := [.inl x199, .inl a3]) rfl (by decide +kernel) okX4_firstWayOn ⟨by decide, by decide⟩ ⟨lm_X4_144, ivX4_firstWayOn⟩ zSh_19 zc_4 (Nat.le_of_ble_eq_true rfl) ⟨rfl, rfl⟩ rfl (WP.c0i f204 (fun x200 _ f203 =>
  WP.istore_n (pc2 := 107) (i := 3) rfl (by decide +kernel) (by decide) <|
  WP.aload_n (pc2 := 108) (i := 2) rfl (by decide +kernel) rfl <|
  WP.iload_n (pc2 := 109) (i := 3) rfl (by decide +kernel) rfl <|
  WP.callV (y := mX4_followFirst) (index := 147) (pc2 := 112) (y' := mX6_addMove) (vs := [.inl x200]) rfl (by decide +kernel) okX6_addMove ⟨by decide, by decide⟩ ⟨lm_X4_147, ivX6_addMove⟩ zSh_25 zc_6 (Nat.le_of_ble_eq_true rfl) ⟨rfl, rfl⟩ rfl (WP.c1v f203 (fun hi201 f202 =>
  WP.goto (off := 27) (tgt := 139) (by decide +kernel) (by decide) <|
  WP.iinc (pc2 := 142) (i := 5) (d := 1) rfl (by decide +kernel) rfl f202.1 <|
  WP.goto (off := -119) (tgt := 23) (by decide +kernel) (by decide) <|
  f202.2)))))))))))) (fun h => absurd h (by decide))) (fun h243 => have f245 := f248.2 h243
  WP.iload_n (pc2 := 49) (i := 3) rfl (by decide +kernel) rfl <|
  WP.aload_n (pc2 := 50) (i := 0) rfl (by decide +kernel) rfl <|
  WP.getI (pc2 := 53) rfl (by decide +kernel) zc_4 zSh_19 (by decide) rfl lf_X4_63 rfl rfl <|
  WP.icmp_ne (pc2 := 56) (off := 7) (tgt := 60) rfl (by decide +kernel) (by decide) (fun h240 => have f241 := f245.1 h240
  WP.iconst (pc2 := 61) (x := 0) rfl (by decide +kernel) (by decide) <|
  WP.istore (pc2 := 63) (i := 6) rfl (by decide +kernel) (by decide) <|
  WP.iload (pc2 := 65) (i := 6) rfl (by decide +kernel) rfl <|
  WP.if_eq (pc2 := 68) (off := 10) (tgt := 75) rfl (by decide +kernel) (by decide) (fun _ =>
  WP.iload (pc2 := 77) (i := 4) rfl (by decide +kernel) rfl <|
  WP.istore (pc2 := 79) (i := 7) rfl (by decide +kernel) (by decide) <|
  WP.aload_n (pc2 := 80) (i := 0) rfl (by decide +kernel) rfl <|
  WP.iload (pc2 := 82) (i := 5) rfl (by decide +kernel) rfl <|
  WP.iload (pc2 := 84) (i := 7) rfl (by decide +kernel) rfl <|
  WP.callS (y := mX4_followFirst) (index := 107) (pc2 := 87) (y' := mX4_rowOf) (vs := [.inl a5, .inl a4]) rfl (by decide +kernel) okX4_rowOf ⟨by decide, by decide⟩ ⟨lm_X4_107, ivX4_rowOf⟩ (Nat.le_of_ble_eq_true rfl) ⟨rfl, rfl⟩ rfl (WP.c0i f241 (fun x210 _ f224 =>
  WP.iload_n (pc2 := 88) (i := 3) rfl (by decide +kernel) rfl <|
  WP.callV (y := mX4_followFirst) (index := 123) (pc2 := 91) (y' := mX4_isReached) (vs := [.inl x210, .inl a3]) rfl (by decide +kernel) okX4_isReached ⟨by decide, by decide⟩ ⟨lm_X4_123, ivX4_isReached⟩ zSh_19 zc_4 (Nat.le_of_ble_eq_true rfl) ⟨rfl, rfl⟩ rfl (WP.c0i f224 (fun x211 _ f223 =>
  WP.if_ne (pc2 := 94) (off := 24) (tgt := 115) rfl (by decide +kernel) (by decide) (fun h220 => have f221 := f223.1 h220
  WP.iload (pc2 := 117) (i := 6) rfl (by decide +kernel) rfl <|
  WP.if_eq (pc2 := 120) (off := 17) (tgt := 134) rfl (by decide +kernel) (by decide) (fun _ =>
  WP.aload_n (pc2 := 135) (i := 2) rfl (by decide +kernel) rfl <|
  WP.iload_n (pc2 := 136) (i := 3) rfl (by decide +kernel) rfl <|
  WP.callV (y := mX4_followFirst) (index := 153) (pc2 := 139) (y' := mX6_addWait) (vs := [.inl a3]) rfl (by decide +kernel) okX6_addWait ⟨by decide, by decide⟩ ⟨lm_X4_153, ivX6_addWait⟩ zSh_25 zc_6 (Nat.le_of_ble_eq_true rfl) ⟨rfl, rfl⟩ rfl (WP.c1v f221 (fun hi212 f213 =>
  WP.iinc (pc2 := 142) (i := 5) (d := 1) rfl (by decide +kernel) rfl f213.1 <|
  WP.goto (off := -119) (tgt := 23) (by decide +kernel) (by decide) <|
  f213.2))) (fun h => absurd h (by decide))) (fun h220 => have f222 := f223.2 h220
  WP.aload_n (pc2 := 95) (i := 0) rfl (by decide +kernel) rfl <|
  WP.iload (pc2 := 97) (i := 5) rfl (by decide +kernel) rfl <|
  WP.iload (pc2 := 99) (i := 4) rfl (by decide +kernel) rfl <|
  WP.callS (y := mX4_followFirst) (index := 107) (pc2 := 102) (y' := mX4_rowOf) (vs := [.inl a5, .inl a4]) rfl (by decide +kernel) okX4_rowOf ⟨by decide, by decide⟩ ⟨lm_X4_107, ivX4_rowOf⟩ (Nat.le_of_ble_eq_true rfl) ⟨rfl, rfl⟩ rfl (WP.c0i f222 (fun x214 _ f219 =>
  WP.iload_n (pc2 := 103) (i := 3) rfl (by decide +kernel) rfl <|
  WP.callV (y := mX4_followFirst) (index := 144) (pc2 := 106) (y' := mX4_firstWayOn) (vs := [.inl x214, .inl a3]) rfl (by decide +kernel) okX4_firstWayOn ⟨by decide, by decide⟩ ⟨lm_X4_144, ivX4_firstWayOn⟩ zSh_19 zc_4 (Nat.le_of_ble_eq_true rfl) ⟨rfl, rfl⟩ rfl (WP.c0i f219 (fun x215 _ f218 =>
  WP.istore_n (pc2 := 107) (i := 3) rfl (by decide +kernel) (by decide) <|
  WP.aload_n (pc2 := 108) (i := 2) rfl (by decide +kernel) rfl <|
  WP.iload_n (pc2 := 109) (i := 3) rfl (by decide +kernel) rfl <|
  WP.callV (y := mX4_followFirst) (index := 147) (pc2 := 112) (y' := mX6_addMove) (vs := [.inl x215]) rfl (by decide +kernel) okX6_addMove ⟨by decide, by decide⟩ ⟨lm_X4_147, ivX6_addMove⟩ zSh_25 zc_6 (Nat.le_of_ble_eq_true rfl) ⟨rfl, rfl⟩ rfl (WP.c1v f218 (fun hi216 f217 =>
  WP.goto (off := 27) (tgt := 139) (by decide +kernel) (by decide) <|
  WP.iinc (pc2 := 142) (i := 5) (d := 1) rfl (by decide +kernel) rfl f217.1 <|
  WP.goto (off := -119) (tgt := 23) (by decide +kernel) (by decide) <|
  f217.2)))))))))))) (fun h => absurd h (by decide))) (fun h240 => have f242 := f245.2 h240
  WP.iconst (pc2 := 57) (x := 1) rfl (by decide +kernel) (by decide) <|
  WP.goto (off := 4) (tgt := 61) (by decide +kernel) (by decide) <|
  WP.istore (pc2 := 63) (i := 6) rfl (by decide +kernel) (by decide) <|
  WP.iload (pc2 := 65) (i := 6) rfl (by decide +kernel) rfl <|
  WP.if_eq (pc2 := 68) (off := 10) (tgt := 75) rfl (by decide +kernel) (by decide) (fun h => absurd h (by decide)) (fun _ =>
  WP.iload (pc2 := 70) (i := 4) rfl (by decide +kernel) rfl <|
  WP.iconst (pc2 := 71) (x := 1) rfl (by decide +kernel) (by decide) <|
  WP.iadd (pc2 := 72) rfl (by decide +kernel) f242.1 <|
  WP.goto (off := 5) (tgt := 77) (by decide +kernel) (by decide) <|
  WP.istore (pc2 := 79) (i := 7) rfl (by decide +kernel) (by decide) <|
  WP.aload_n (pc2 := 80) (i := 0) rfl (by decide +kernel) rfl <|
  WP.iload (pc2 := 82) (i := 5) rfl (by decide +kernel) rfl <|
  WP.iload (pc2 := 84) (i := 7) rfl (by decide +kernel) rfl <|
  WP.callS (y := mX4_followFirst) (index := 107) (pc2 := 87) (y' := mX4_rowOf) (vs := [.inl a5, .inl (a4 + 1)]) rfl (by decide +kernel) okX4_rowOf ⟨by decide, by decide⟩ ⟨lm_X4_107, ivX4_rowOf⟩ (Nat.le_of_ble_eq_true rfl) ⟨rfl, rfl⟩ rfl (WP.c0i f242.2 (fun x225 _ f239 =>
  WP.iload_n (pc2 := 88) (i := 3) rfl (by decide +kernel) rfl <|
  WP.callV (y := mX4_followFirst) (index := 123) (pc2 := 91) (y' := mX4_isReached) (vs := [.inl x225, .inl a3]) rfl (by decide +kernel) okX4_isReached ⟨by decide, by decide⟩ ⟨lm_X4_123, ivX4_isReached⟩ zSh_19 zc_4 (Nat.le_of_ble_eq_true rfl) ⟨rfl, rfl⟩ rfl (WP.c0i f239 (fun x226 _ f238 =>
  WP.if_ne (pc2 := 94) (off := 24) (tgt := 115) rfl (by decide +kernel) (by decide) (fun h235 => have f236 := f238.1 h235
  WP.iload (pc2 := 117) (i := 6) rfl (by decide +kernel) rfl <|
  WP.if_eq (pc2 := 120) (off := 17) (tgt := 134) rfl (by decide +kernel) (by decide) (fun h => absurd h (by decide)) (fun _ =>
  WP.iload (pc2 := 122) (i := 7) rfl (by decide +kernel) rfl <|
  WP.istore (pc2 := 124) (i := 4) rfl (by decide +kernel) (by decide) <|
  WP.aload_n (pc2 := 125) (i := 2) rfl (by decide +kernel) rfl <|
  WP.iload_n (pc2 := 126) (i := 3) rfl (by decide +kernel) rfl <|
  WP.iload (pc2 := 128) (i := 4) rfl (by decide +kernel) rfl <|
  WP.callV (y := mX4_followFirst) (index := 150) (pc2 := 131) (y' := mX6_addTurn) (vs := [.inl a3, .inl (a4 + 1)]) rfl (by decide +kernel) okX6_addTurn ⟨by decide, by decide⟩ ⟨lm_X4_150, ivX6_addTurn⟩ zSh_25 zc_6 (Nat.le_of_ble_eq_true rfl) ⟨rfl, rfl⟩ rfl (WP.c1v f236 (fun hi227 f228 =>
  WP.goto (off := 8) (tgt := 139) (by decide +kernel) (by decide) <|
  WP.iinc (pc2 := 142) (i := 5) (d := 1) rfl (by decide +kernel) rfl f228.1 <|
  WP.goto (off := -119) (tgt := 23) (by decide +kernel) (by decide) <|
  f228.2)))) (fun h235 => have f237 := f238.2 h235
  WP.aload_n (pc2 := 95) (i := 0) rfl (by decide +kernel) rfl <|
  WP.iload (pc2 := 97) (i := 5) rfl (by decide +kernel) rfl <|
  WP.iload (pc2 := 99) (i := 4) rfl (by decide +kernel) rfl <|
  WP.callS (y := mX4_followFirst) (index := 107) (pc2 := 102) (y' := mX4_rowOf) (vs := [.inl a5, .inl a4]) rfl (by decide +kernel) okX4_rowOf ⟨by decide, by decide⟩ ⟨lm_X4_107, ivX4_rowOf⟩ (Nat.le_of_ble_eq_true rfl) ⟨rfl, rfl⟩ rfl (WP.c0i f237 (fun x229 _ f234 =>
  WP.iload_n (pc2 := 103) (i := 3) rfl (by decide +kernel) rfl <|
  WP.callV (y := mX4_followFirst) (index := 144) (pc2 := 106) (y' := mX4_firstWayOn) (vs := [.inl x229, .inl a3]) rfl (by decide +kernel) okX4_firstWayOn ⟨by decide, by decide⟩ ⟨lm_X4_144, ivX4_firstWayOn⟩ zSh_19 zc_4 (Nat.le_of_ble_eq_true rfl) ⟨rfl, rfl⟩ rfl (WP.c0i f234 (fun x230 _ f233 =>
  WP.istore_n (pc2 := 107) (i := 3) rfl (by decide +kernel) (by decide) <|
  WP.aload_n (pc2 := 108) (i := 2) rfl (by decide +kernel) rfl <|
  WP.iload_n (pc2 := 109) (i := 3) rfl (by decide +kernel) rfl <|
  WP.callV (y := mX4_followFirst) (index := 147) (pc2 := 112) (y' := mX6_addMove) (vs := [.inl x230]) rfl (by decide +kernel) okX6_addMove ⟨by decide, by decide⟩ ⟨lm_X4_147, ivX6_addMove⟩ zSh_25 zc_6 (Nat.le_of_ble_eq_true rfl) ⟨rfl, rfl⟩ rfl (WP.c1v f233 (fun hi231 f232 =>
  WP.goto (off := 27) (tgt := 139) (by decide +kernel) (by decide) <|
  WP.iinc (pc2 := 142) (i := 5) (d := 1) rfl (by decide +kernel) rfl f232.1 <|
  WP.goto (off := -119) (tgt := 23) (by decide +kernel) (by decide) <|
  f232.2)))))))))))))))))
set_option maxRecDepth 100000 in
set_option maxHeartbeats 4000000 in
theorem GX4_firstWayOn {hi : zI} {hr : zR} {P : Int → Prop} (l1 : Int) (l2 : Int) 
    (F : WP mX4_firstWayOn 2 [some (.inr (some (19, 0))), some (.inl l1), some (.inl l2), some (.inl 0), none] [] hi hr (zQ0i hi hr P)) :
    W0i mX4_firstWayOn [.inr (some (19, 0)), .inl l1, .inl l2] hi hr P :=
  WPm.of rfl (show WP mX4_firstWayOn 0 [some (.inr (some (19, 0))), some (.inl l1), some (.inl l2), none, none] [] hi hr (zQ0i hi hr P) from
  WP.iconst (pc2 := 1) (x := 0) rfl (by decide +kernel) (by decide) <|
  WP.istore_n (pc2 := 2) (i := 3) rfl (by decide +kernel) (by decide) <|
  F)

set_option maxRecDepth 100000 in
set_option maxHeartbeats 4000000 in
theorem GX4_firstWayOn_2 {hi : zI} {hr : zR} {P : Int → Prop} (l1 : Int) (l2 : Int) (a3 : Int) (u4 : Option zV) 
    (F : (4 ≤ a3 → P l2) ∧ (a3 < 4 → (∃ j14 : Int, hr 19 0 5 = some (30, j14) ∧ (0 ≤ j14 ∧ j14 < 2) ∧ (W0i mX10_neighbour [.inr (some (30, j14)), .inl l2, .inl a3] hi hr (fun (x16 : Int) => W0i mX4_isReached [.inr (some (19, 0)), .inl l1, .inl x16] hi hr (fun (x17 : Int) => (x17 = 0 → ((zInR (a3 + 1)) ∧ (WP mX4_firstWayOn 2 [some (.inr (some (19, 0))), some (.inl l1), some (.inl l2), some (.inl (a3 + 1)), some (.inl x16)] [] hi hr (zQ0i hi hr P)))) ∧ (x17 ≠ 0 → P x16))))))) :
    WP mX4_firstWayOn 2 [some (.inr (some (19, 0))), some (.inl l1), some (.inl l2), some (.inl a3), u4] [] hi hr (zQ0i hi hr P) :=
  WP.iload_n (pc2 := 3) (i := 3) rfl (by decide +kernel) rfl <|
  WP.iconst (pc2 := 4) (x := 4) rfl (by decide +kernel) (by decide) <|
  WP.icmp_ge (pc2 := 7) (off := 33) (tgt := 37) rfl (by decide +kernel) (by decide) (fun h24 => have f25 := F.1 h24
  WP.iload_n (pc2 := 38) (i := 2) rfl (by decide +kernel) rfl <|
  WP.iret (by decide +kernel) rfl (fun hx => ⟨_, rfl, hx, rfl, rfl, f25⟩)) (fun h24 => have f26 := F.2 h24
  WP.aload_n (pc2 := 8) (i := 0) rfl (by decide +kernel) rfl <|
  Exists.elim f26 (fun j14 f23 => have e15 := f23.1; have e15r := f23.2.1
  WP.getR (pc2 := 11) rfl (by decide +kernel) zc_4 zSh_19 (by decide) rfl lf_X4_34 rfl e15 <|
  WP.iload_n (pc2 := 12) (i := 2) rfl (by decide +kernel) rfl <|
  WP.iload_n (pc2 := 13) (i := 3) rfl (by decide +kernel) rfl <|
  WP.callV (y := mX4_firstWayOn) (index := 156) (pc2 := 16) (y' := mX10_neighbour) (vs := [.inl l2, .inl a3]) rfl (by decide +kernel) okX10_neighbour ⟨by decide, by decide⟩ ⟨lm_X4_156, ivX10_neighbour⟩ zSh_30 zc_10 (Nat.le_of_ble_eq_true rfl) ⟨rfl, rfl⟩ rfl (WP.c0i f23.2.2 (fun x16 _ f22 =>
  WP.istore (pc2 := 18) (i := 4) rfl (by decide +kernel) (by decide) <|
  WP.aload_n (pc2 := 19) (i := 0) rfl (by decide +kernel) rfl <|
  WP.iload_n (pc2 := 20) (i := 1) rfl (by decide +kernel) rfl <|
  WP.iload (pc2 := 22) (i := 4) rfl (by decide +kernel) rfl <|
  WP.callV (y := mX4_firstWayOn) (index := 123) (pc2 := 25) (y' := mX4_isReached) (vs := [.inl l1, .inl x16]) rfl (by decide +kernel) okX4_isReached ⟨by decide, by decide⟩ ⟨lm_X4_123, ivX4_isReached⟩ zSh_19 zc_4 (Nat.le_of_ble_eq_true rfl) ⟨rfl, rfl⟩ rfl (WP.c0i f22 (fun x17 _ f21 =>
  WP.if_eq (pc2 := 28) (off := 6) (tgt := 31) rfl (by decide +kernel) (by decide) (fun h18 => have f19 := f21.1 h18
  WP.iinc (pc2 := 34) (i := 3) (d := 1) rfl (by decide +kernel) rfl f19.1 <|
  WP.goto (off := -32) (tgt := 2) (by decide +kernel) (by decide) <|
  f19.2) (fun h18 => have f20 := f21.2 h18
  WP.iload (pc2 := 30) (i := 4) rfl (by decide +kernel) rfl <|
  WP.iret (by decide +kernel) rfl (fun hx => ⟨_, rfl, hx, rfl, rfl, f20⟩))))))))
set_option maxRecDepth 100000 in
set_option maxHeartbeats 4000000 in
theorem GX4_beside {hi : zI} {hr : zR} {P : Int → Prop} (hR : RSc hr) (l1 : Int) (l2 : Int) 
    (F : (zInR (l1 + l2)) ∧ ((0 ≤ l1 + l2 ∧ l1 + l2 < 14448) ∧ ((l2 ≤ 0 → ((zInR (l2 + 1)) ∧ ((hi 19 0 8 ≤ l2 + 1 → (P (zor (zor (zor (zshl (hi 20 0 (l1 + l2)) 1) (zushr (hi 20 0 (l1 + l2)) 1)) 0) 0))) ∧ (l2 + 1 < hi 19 0 8 → ((zInR (l1 + l2)) ∧ ((zInR ((l1 + l2) + 1)) ∧ ((0 ≤ (l1 + l2) + 1 ∧ (l1 + l2) + 1 < 14448) ∧ (P (zor (zor (zor (zshl (hi 20 0 (l1 + l2)) 1) (zushr (hi 20 0 (l1 + l2)) 1)) 0) (hi 20 0 ((l1 + l2) + 1))))))))))) ∧ (0 < l2 → ((zInR (l1 + l2)) ∧ ((zInR ((l1 + l2) - 1)) ∧ ((0 ≤ (l1 + l2) - 1 ∧ (l1 + l2) - 1 < 14448) ∧ ((zInR (l2 + 1)) ∧ ((hi 19 0 8 ≤ l2 + 1 → (P (zor (zor (zor (zshl (hi 20 0 (l1 + l2)) 1) (zushr (hi 20 0 (l1 + l2)) 1)) (hi 20 0 ((l1 + l2) - 1))) 0))) ∧ (l2 + 1 < hi 19 0 8 → ((zInR (l1 + l2)) ∧ ((zInR ((l1 + l2) + 1)) ∧ ((0 ≤ (l1 + l2) + 1 ∧ (l1 + l2) + 1 < 14448) ∧ (P (zor (zor (zor (zshl (hi 20 0 (l1 + l2)) 1) (zushr (hi 20 0 (l1 + l2)) 1)) (hi 20 0 ((l1 + l2) - 1))) (hi 20 0 ((l1 + l2) + 1))))))))))))))))) :
    W0i mX4_beside [.inr (some (19, 0)), .inl l1, .inl l2] hi hr P :=
  WPm.of rfl (show WP mX4_beside 0 [some (.inr (some (19, 0))), some (.inl l1), some (.inl l2), none, none, none] [] hi hr (zQ0i hi hr P) from
  WP.aload_n (pc2 := 1) (i := 0) rfl (by decide +kernel) rfl <|
  WP.getR (pc2 := 4) rfl (by decide +kernel) zc_4 zSh_19 (by decide) rfl lf_X4_11 rfl (rs_19_0 hR) <|
  WP.iload_n (pc2 := 5) (i := 1) rfl (by decide +kernel) rfl <|
  WP.iload_n (pc2 := 6) (i := 2) rfl (by decide +kernel) rfl <|
  WP.iadd (pc2 := 7) rfl (by decide +kernel) F.1 <|
  WP.iaload (pc2 := 8) rfl (by decide +kernel) zSh_20 rfl F.2.1 rfl <|
  WP.istore_n (pc2 := 9) (i := 3) rfl (by decide +kernel) (by decide) <|
  WP.iload_n (pc2 := 10) (i := 2) rfl (by decide +kernel) rfl <|
  WP.if_le (pc2 := 13) (off := 16) (tgt := 26) rfl (by decide +kernel) (by decide) (fun h7 => have f8 := F.2.2.1 h7
  WP.iconst (pc2 := 27) (x := 0) rfl (by decide +kernel) (by decide) <|
  WP.istore (pc2 := 29) (i := 4) rfl (by decide +kernel) (by decide) <|
  WP.iload_n (pc2 := 30) (i := 2) rfl (by decide +kernel) rfl <|
  WP.iconst (pc2 := 31) (x := 1) rfl (by decide +kernel) (by decide) <|
  WP.iadd (pc2 := 32) rfl (by decide +kernel) f8.1 <|
  WP.aload_n (pc2 := 33) (i := 0) rfl (by decide +kernel) rfl <|
  WP.getI (pc2 := 36) rfl (by decide +kernel) zc_4 zSh_19 (by decide) rfl lf_X4_51 rfl rfl <|
  WP.icmp_ge (pc2 := 39) (off := 16) (tgt := 52) rfl (by decide +kernel) (by decide) (fun h1 => have f2 := f8.2.1 h1
  WP.iconst (pc2 := 53) (x := 0) rfl (by decide +kernel) (by decide) <|
  WP.istore (pc2 := 55) (i := 5) rfl (by decide +kernel) (by decide) <|
  WP.iload_n (pc2 := 56) (i := 3) rfl (by decide +kernel) rfl <|
  WP.iconst (pc2 := 57) (x := 1) rfl (by decide +kernel) (by decide) <|
  WP.ishl (pc2 := 58) rfl (by decide +kernel) <|
  WP.iload_n (pc2 := 59) (i := 3) rfl (by decide +kernel) rfl <|
  WP.iconst (pc2 := 60) (x := 1) rfl (by decide +kernel) (by decide) <|
  WP.iushr (pc2 := 61) rfl (by decide +kernel) <|
  WP.ior (pc2 := 62) rfl (by decide +kernel) <|
  WP.iload (pc2 := 64) (i := 4) rfl (by decide +kernel) rfl <|
  WP.ior (pc2 := 65) rfl (by decide +kernel) <|
  WP.iload (pc2 := 67) (i := 5) rfl (by decide +kernel) rfl <|
  WP.ior (pc2 := 68) rfl (by decide +kernel) <|
  WP.iret (by decide +kernel) rfl (fun hx => ⟨_, rfl, hx, rfl, rfl, f2⟩)) (fun h1 => have f3 := f8.2.2 h1
  WP.aload_n (pc2 := 40) (i := 0) rfl (by decide +kernel) rfl <|
  WP.getR (pc2 := 43) rfl (by decide +kernel) zc_4 zSh_19 (by decide) rfl lf_X4_11 rfl (rs_19_0 hR) <|
  WP.iload_n (pc2 := 44) (i := 1) rfl (by decide +kernel) rfl <|
  WP.iload_n (pc2 := 45) (i := 2) rfl (by decide +kernel) rfl <|
  WP.iadd (pc2 := 46) rfl (by decide +kernel) f3.1 <|
  WP.iconst (pc2 := 47) (x := 1) rfl (by decide +kernel) (by decide) <|
  WP.iadd (pc2 := 48) rfl (by decide +kernel) f3.2.1 <|
  WP.iaload (pc2 := 49) rfl (by decide +kernel) zSh_20 rfl f3.2.2.1 rfl <|
  WP.goto (off := 4) (tgt := 53) (by decide +kernel) (by decide) <|
  WP.istore (pc2 := 55) (i := 5) rfl (by decide +kernel) (by decide) <|
  WP.iload_n (pc2 := 56) (i := 3) rfl (by decide +kernel) rfl <|
  WP.iconst (pc2 := 57) (x := 1) rfl (by decide +kernel) (by decide) <|
  WP.ishl (pc2 := 58) rfl (by decide +kernel) <|
  WP.iload_n (pc2 := 59) (i := 3) rfl (by decide +kernel) rfl <|
  WP.iconst (pc2 := 60) (x := 1) rfl (by decide +kernel) (by decide) <|
  WP.iushr (pc2 := 61) rfl (by decide +kernel) <|
  WP.ior (pc2 := 62) rfl (by decide +kernel) <|
  WP.iload (pc2 := 64) (i := 4) rfl (by decide +kernel) rfl <|
  WP.ior (pc2 := 65) rfl (by decide +kernel) <|
  WP.iload (pc2 := 67) (i := 5) rfl (by decide +kernel) rfl <|
  WP.ior (pc2 := 68) rfl (by decide +kernel) <|
  WP.iret (by decide +kernel) rfl (fun hx => ⟨_, rfl, hx, rfl, rfl, f3.2.2.2⟩))) (fun h7 => have f9 := F.2.2.2 h7
  WP.aload_n (pc2 := 14) (i := 0) rfl (by decide +kernel) rfl <|
  WP.getR (pc2 := 17) rfl (by decide +kernel) zc_4 zSh_19 (by decide) rfl lf_X4_11 rfl (rs_19_0 hR) <|
  WP.iload_n (pc2 := 18) (i := 1) rfl (by decide +kernel) rfl <|
  WP.iload_n (pc2 := 19) (i := 2) rfl (by decide +kernel) rfl <|
  WP.iadd (pc2 := 20) rfl (by decide +kernel) f9.1 <|
  WP.iconst (pc2 := 21) (x := 1) rfl (by decide +kernel) (by decide) <|
  WP.isub (pc2 := 22) rfl (by decide +kernel) f9.2.1 <|
  WP.iaload (pc2 := 23) rfl (by decide +kernel) zSh_20 rfl f9.2.2.1 rfl <|
  WP.goto (off := 4) (tgt := 27) (by decide +kernel) (by decide) <|
  WP.istore (pc2 := 29) (i := 4) rfl (by decide +kernel) (by decide) <|
  WP.iload_n (pc2 := 30) (i := 2) rfl (by decide +kernel) rfl <|
  WP.iconst (pc2 := 31) (x := 1) rfl (by decide +kernel) (by decide) <|
  WP.iadd (pc2 := 32) rfl (by decide +kernel) f9.2.2.2.1 <|
  WP.aload_n (pc2 := 33) (i := 0) rfl (by decide +kernel) rfl <|
  WP.getI (pc2 := 36) rfl (by decide +kernel) zc_4 zSh_19 (by decide) rfl lf_X4_51 rfl rfl <|
  WP.icmp_ge (pc2 := 39) (off := 16) (tgt := 52) rfl (by decide +kernel) (by decide) (fun h4 => have f5 := f9.2.2.2.2.1 h4
  WP.iconst (pc2 := 53) (x := 0) rfl (by decide +kernel) (by decide) <|
  WP.istore (pc2 := 55) (i := 5) rfl (by decide +kernel) (by decide) <|
  WP.iload_n (pc2 := 56) (i := 3) rfl (by decide +kernel) rfl <|
  WP.iconst (pc2 := 57) (x := 1) rfl (by decide +kernel) (by decide) <|
  WP.ishl (pc2 := 58) rfl (by decide +kernel) <|
  WP.iload_n (pc2 := 59) (i := 3) rfl (by decide +kernel) rfl <|
  WP.iconst (pc2 := 60) (x := 1) rfl (by decide +kernel) (by decide) <|
  WP.iushr (pc2 := 61) rfl (by decide +kernel) <|
  WP.ior (pc2 := 62) rfl (by decide +kernel) <|
  WP.iload (pc2 := 64) (i := 4) rfl (by decide +kernel) rfl <|
  WP.ior (pc2 := 65) rfl (by decide +kernel) <|
  WP.iload (pc2 := 67) (i := 5) rfl (by decide +kernel) rfl <|
  WP.ior (pc2 := 68) rfl (by decide +kernel) <|
  WP.iret (by decide +kernel) rfl (fun hx => ⟨_, rfl, hx, rfl, rfl, f5⟩)) (fun h4 => have f6 := f9.2.2.2.2.2 h4
  WP.aload_n (pc2 := 40) (i := 0) rfl (by decide +kernel) rfl <|
  WP.getR (pc2 := 43) rfl (by decide +kernel) zc_4 zSh_19 (by decide) rfl lf_X4_11 rfl (rs_19_0 hR) <|
  WP.iload_n (pc2 := 44) (i := 1) rfl (by decide +kernel) rfl <|
  WP.iload_n (pc2 := 45) (i := 2) rfl (by decide +kernel) rfl <|
  WP.iadd (pc2 := 46) rfl (by decide +kernel) f6.1 <|
  WP.iconst (pc2 := 47) (x := 1) rfl (by decide +kernel) (by decide) <|
  WP.iadd (pc2 := 48) rfl (by decide +kernel) f6.2.1 <|
  WP.iaload (pc2 := 49) rfl (by decide +kernel) zSh_20 rfl f6.2.2.1 rfl <|
  WP.goto (off := 4) (tgt := 53) (by decide +kernel) (by decide) <|
  WP.istore (pc2 := 55) (i := 5) rfl (by decide +kernel) (by decide) <|
  WP.iload_n (pc2 := 56) (i := 3) rfl (by decide +kernel) rfl <|
  WP.iconst (pc2 := 57) (x := 1) rfl (by decide +kernel) (by decide) <|
  WP.ishl (pc2 := 58) rfl (by decide +kernel) <|
  WP.iload_n (pc2 := 59) (i := 3) rfl (by decide +kernel) rfl <|
  WP.iconst (pc2 := 60) (x := 1) rfl (by decide +kernel) (by decide) <|
  WP.iushr (pc2 := 61) rfl (by decide +kernel) <|
  WP.ior (pc2 := 62) rfl (by decide +kernel) <|
  WP.iload (pc2 := 64) (i := 4) rfl (by decide +kernel) rfl <|
  WP.ior (pc2 := 65) rfl (by decide +kernel) <|
  WP.iload (pc2 := 67) (i := 5) rfl (by decide +kernel) rfl <|
  WP.ior (pc2 := 68) rfl (by decide +kernel) <|
  WP.iret (by decide +kernel) rfl (fun hx => ⟨_, rfl, hx, rfl, rfl, f6.2.2.2⟩))))
set_option maxRecDepth 100000 in
set_option maxHeartbeats 4000000 in
theorem GX4_rowOf {hi : zI} {hr : zR} {P : Int → Prop} (l0 : Int) (l1 : Int) 
    (F : (zInR (l0 * 48)) ∧ ((zInR (l1 * 16)) ∧ ((zInR ((l0 * 48) + (l1 * 16))) ∧ (P ((l0 * 48) + (l1 * 16)))))) :
    W0i mX4_rowOf [.inl l0, .inl l1] hi hr P :=
  WPm.of rfl (show WP mX4_rowOf 0 [some (.inl l0), some (.inl l1)] [] hi hr (zQ0i hi hr P) from
  WP.iload_n (pc2 := 1) (i := 0) rfl (by decide +kernel) rfl <|
  WP.bipush (pc2 := 3) (x := 48) rfl (by decide +kernel) ⟨by decide +kernel, by decide⟩ <|
  WP.imul (pc2 := 4) rfl (by decide +kernel) F.1 <|
  WP.iload_n (pc2 := 5) (i := 1) rfl (by decide +kernel) rfl <|
  WP.bipush (pc2 := 7) (x := 16) rfl (by decide +kernel) ⟨by decide +kernel, by decide⟩ <|
  WP.imul (pc2 := 8) rfl (by decide +kernel) F.2.1 <|
  WP.iadd (pc2 := 9) rfl (by decide +kernel) F.2.2.1 <|
  WP.iret (by decide +kernel) rfl (fun hx => ⟨_, rfl, hx, rfl, rfl, F.2.2.2⟩))
set_option maxRecDepth 100000 in
set_option maxHeartbeats 4000000 in
theorem GX4_clearLayer {hi : zI} {hr : zR} {P : zI → Prop} (l1 : Int) 
    (F : W0i mX4_rowOf [.inl l1, .inl 0] hi hr (fun (x1 : Int) => WP mX4_clearLayer 8 [some (.inr (some (19, 0))), some (.inl l1), some (.inl x1), some (.inl 0)] [] hi hr (zQ1v hr P))) :
    W1v mX4_clearLayer [.inr (some (19, 0)), .inl l1] hi hr P :=
  WPm.of rfl (show WP mX4_clearLayer 0 [some (.inr (some (19, 0))), some (.inl l1), none, none] [] hi hr (zQ1v hr P) from
  WP.iload_n (pc2 := 1) (i := 1) rfl (by decide +kernel) rfl <|
  WP.iconst (pc2 := 2) (x := 0) rfl (by decide +kernel) (by decide) <|
  WP.callS (y := mX4_clearLayer) (index := 107) (pc2 := 5) (y' := mX4_rowOf) (vs := [.inl l1, .inl 0]) rfl (by decide +kernel) okX4_rowOf ⟨by decide, by decide⟩ ⟨lm_X4_107, ivX4_rowOf⟩ (Nat.le_of_ble_eq_true rfl) ⟨rfl, rfl⟩ rfl (WP.c0i F (fun x1 _ f2 =>
  WP.istore_n (pc2 := 6) (i := 2) rfl (by decide +kernel) (by decide) <|
  WP.iconst (pc2 := 7) (x := 0) rfl (by decide +kernel) (by decide) <|
  WP.istore_n (pc2 := 8) (i := 3) rfl (by decide +kernel) (by decide) <|
  f2)))

set_option maxRecDepth 100000 in
set_option maxHeartbeats 4000000 in
theorem GX4_clearLayer_8 {hi : zI} {hr : zR} {P : zI → Prop} (hR : RSc hr) (l1 : Int) (a2 : Int) (a3 : Int) 
    (F : (48 ≤ a3 → P hi) ∧ (a3 < 48 → ((zInR (a2 + a3)) ∧ ((14448 ≤ a2 + a3 → P hi) ∧ (a2 + a3 < 14448 → ((zInR (a2 + a3)) ∧ ((0 ≤ a2 + a3 ∧ a2 + a3 < 14448) ∧ ((zInR (a3 + 1)) ∧ (WP mX4_clearLayer 8 [some (.inr (some (19, 0))), some (.inl l1), some (.inl a2), some (.inl (a3 + 1))] [] (zup hi 20 0 (a2 + a3) 0) hr (zQ1v hr P)))))))))) :
    WP mX4_clearLayer 8 [some (.inr (some (19, 0))), some (.inl l1), some (.inl a2), some (.inl a3)] [] hi hr (zQ1v hr P) :=
  WP.iload_n (pc2 := 9) (i := 3) rfl (by decide +kernel) rfl <|
  WP.bipush (pc2 := 11) (x := 48) rfl (by decide +kernel) ⟨by decide +kernel, by decide⟩ <|
  WP.icmp_ge (pc2 := 14) (off := 29) (tgt := 40) rfl (by decide +kernel) (by decide) (fun h6 => have f7 := F.1 h6
  WP.vret (by decide +kernel) rfl ⟨rfl, rfl, f7⟩) (fun h6 => have f8 := F.2 h6
  WP.iload_n (pc2 := 15) (i := 2) rfl (by decide +kernel) rfl <|
  WP.iload_n (pc2 := 16) (i := 3) rfl (by decide +kernel) rfl <|
  WP.iadd (pc2 := 17) rfl (by decide +kernel) f8.1 <|
  WP.aload_n (pc2 := 18) (i := 0) rfl (by decide +kernel) rfl <|
  WP.getR (pc2 := 21) rfl (by decide +kernel) zc_4 zSh_19 (by decide) rfl lf_X4_11 rfl (rs_19_0 hR) <|
  WP.alen (pc2 := 22) rfl (by decide +kernel) zSh_20 (by decide) (by decide) rfl <|
  WP.icmp_ge (pc2 := 25) (off := 18) (tgt := 40) rfl (by decide +kernel) (by decide) (fun h3 => have f4 := f8.2.1 h3
  WP.vret (by decide +kernel) rfl ⟨rfl, rfl, f4⟩) (fun h3 => have f5 := f8.2.2 h3
  WP.aload_n (pc2 := 26) (i := 0) rfl (by decide +kernel) rfl <|
  WP.getR (pc2 := 29) rfl (by decide +kernel) zc_4 zSh_19 (by decide) rfl lf_X4_11 rfl (rs_19_0 hR) <|
  WP.iload_n (pc2 := 30) (i := 2) rfl (by decide +kernel) rfl <|
  WP.iload_n (pc2 := 31) (i := 3) rfl (by decide +kernel) rfl <|
  WP.iadd (pc2 := 32) rfl (by decide +kernel) f5.1 <|
  WP.iconst (pc2 := 33) (x := 0) rfl (by decide +kernel) (by decide) <|
  WP.iastore (pc2 := 34) rfl (by decide +kernel) zSh_20 rfl f5.2.1 <|
  WP.iinc (pc2 := 37) (i := 3) (d := 1) rfl (by decide +kernel) rfl f5.2.2.1 <|
  WP.goto (off := -29) (tgt := 8) (by decide +kernel) (by decide) <|
  f5.2.2.2))
set_option maxRecDepth 100000 in
set_option maxHeartbeats 4000000 in
theorem GX4_mark_Open {hi : zI} {hr : zR} {P : zI → Prop} (l2 : Int) (l3 : Int) 
    (F : (l3 < 0 → P hi) ∧ (0 ≤ l3 → ((0 < hi 19 0 7 → ((0 ≤ l3 ∧ 0 < hi 19 0 7) ∧ ((zInR (l2 + (l3 / (hi 19 0 7)))) ∧ ((l2 + (l3 / (hi 19 0 7)) < 0 → P hi) ∧ (0 ≤ l2 + (l3 / (hi 19 0 7)) → ((16 ≤ l2 + (l3 / (hi 19 0 7)) → P hi) ∧ (l2 + (l3 / (hi 19 0 7)) < 16 → ((0 ≤ l2 + (l3 / (hi 19 0 7)) ∧ l2 + (l3 / (hi 19 0 7)) < 16) ∧ ((0 ≤ l3 ∧ 0 < hi 19 0 7) ∧ ((0 ≤ l2 + (l3 / (hi 19 0 7)) ∧ l2 + (l3 / (hi 19 0 7)) < 16) ∧ (P (zup hi 21 0 (l2 + (l3 / (hi 19 0 7))) (zor (hi 21 0 (l2 + (l3 / (hi 19 0 7)))) (zshl 1 (l3 % (hi 19 0 7)))))))))))))))) ∧ (hi 19 0 7 ≤ 0 → P hi)))) :
    W1v mX4_mark [.inr (some (19, 0)), .inr (some (21, 0)), .inl l2, .inl l3] hi hr P :=
  WPm.of rfl (show WP mX4_mark 0 [some (.inr (some (19, 0))), some (.inr (some (21, 0))), some (.inl l2), some (.inl l3), none] [] hi hr (zQ1v hr P) from
  WP.iload_n (pc2 := 1) (i := 3) rfl (by decide +kernel) rfl <|
  WP.if_lt (pc2 := 4) (off := 10) (tgt := 11) rfl (by decide +kernel) (by decide) (fun h10 => have f11 := F.1 h10
  WP.vret (by decide +kernel) rfl ⟨rfl, rfl, f11⟩) (fun h10 => have f12 := F.2 h10
  WP.aload_n (pc2 := 5) (i := 0) rfl (by decide +kernel) rfl <|
  WP.getI (pc2 := 8) rfl (by decide +kernel) zc_4 zSh_19 (by decide) rfl lf_X4_27 rfl rfl <|
  WP.if_gt (pc2 := 11) (off := 4) (tgt := 12) rfl (by decide +kernel) (by decide) (fun h7 => have f8 := f12.1 h7
  WP.iload_n (pc2 := 13) (i := 2) rfl (by decide +kernel) rfl <|
  WP.iload_n (pc2 := 14) (i := 3) rfl (by decide +kernel) rfl <|
  WP.aload_n (pc2 := 15) (i := 0) rfl (by decide +kernel) rfl <|
  WP.getI (pc2 := 18) rfl (by decide +kernel) zc_4 zSh_19 (by decide) rfl lf_X4_27 rfl rfl <|
  WP.idiv (pc2 := 19) rfl (by decide +kernel) f8.1.1 f8.1.2 <|
  WP.iadd (pc2 := 20) rfl (by decide +kernel) f8.2.1 <|
  WP.istore (pc2 := 22) (i := 4) rfl (by decide +kernel) (by decide) <|
  WP.iload (pc2 := 24) (i := 4) rfl (by decide +kernel) rfl <|
  WP.if_lt (pc2 := 27) (off := 25) (tgt := 49) rfl (by decide +kernel) (by decide) (fun h4 => have f5 := f8.2.2.1 h4
  WP.vret (by decide +kernel) rfl ⟨rfl, rfl, f5⟩) (fun h4 => have f6 := f8.2.2.2 h4
  WP.iload (pc2 := 29) (i := 4) rfl (by decide +kernel) rfl <|
  WP.aload_n (pc2 := 30) (i := 1) rfl (by decide +kernel) rfl <|
  WP.alen (pc2 := 31) rfl (by decide +kernel) zSh_21 (by decide) (by decide) rfl <|
  WP.icmp_ge (pc2 := 34) (off := 18) (tgt := 49) rfl (by decide +kernel) (by decide) (fun h1 => have f2 := f6.1 h1
  WP.vret (by decide +kernel) rfl ⟨rfl, rfl, f2⟩) (fun h1 => have f3 := f6.2 h1
  WP.aload_n (pc2 := 35) (i := 1) rfl (by decide +kernel) rfl <|
  WP.iload (pc2 := 37) (i := 4) rfl (by decide +kernel) rfl <|
  WP.dup2 (pc2 := 38) rfl (by decide +kernel) <|
  WP.iaload (pc2 := 39) rfl (by decide +kernel) zSh_21 rfl f3.1 rfl <|
  WP.iconst (pc2 := 40) (x := 1) rfl (by decide +kernel) (by decide) <|
  WP.iload_n (pc2 := 41) (i := 3) rfl (by decide +kernel) rfl <|
  WP.aload_n (pc2 := 42) (i := 0) rfl (by decide +kernel) rfl <|
  WP.getI (pc2 := 45) rfl (by decide +kernel) zc_4 zSh_19 (by decide) rfl lf_X4_27 rfl rfl <|
  WP.irem (pc2 := 46) rfl (by decide +kernel) f3.2.1.1 f3.2.1.2 <|
  WP.ishl (pc2 := 47) rfl (by decide +kernel) <|
  WP.ior (pc2 := 48) rfl (by decide +kernel) <|
  WP.iastore (pc2 := 49) rfl (by decide +kernel) zSh_21 rfl f3.2.2.1 <|
  WP.vret (by decide +kernel) rfl ⟨rfl, rfl, f3.2.2.2⟩))) (fun h7 => have f9 := f12.2 h7
  WP.vret (by decide +kernel) rfl ⟨rfl, rfl, f9⟩)))
set_option maxRecDepth 100000 in
set_option maxHeartbeats 4000000 in
theorem GX4_mark_Turns {hi : zI} {hr : zR} {P : zI → Prop} (l2 : Int) (l3 : Int) 
    (F : (l3 < 0 → P hi) ∧ (0 ≤ l3 → ((0 < hi 19 0 7 → ((0 ≤ l3 ∧ 0 < hi 19 0 7) ∧ ((zInR (l2 + (l3 / (hi 19 0 7)))) ∧ ((l2 + (l3 / (hi 19 0 7)) < 0 → P hi) ∧ (0 ≤ l2 + (l3 / (hi 19 0 7)) → ((48 ≤ l2 + (l3 / (hi 19 0 7)) → P hi) ∧ (l2 + (l3 / (hi 19 0 7)) < 48 → ((0 ≤ l2 + (l3 / (hi 19 0 7)) ∧ l2 + (l3 / (hi 19 0 7)) < 48) ∧ ((0 ≤ l3 ∧ 0 < hi 19 0 7) ∧ ((0 ≤ l2 + (l3 / (hi 19 0 7)) ∧ l2 + (l3 / (hi 19 0 7)) < 48) ∧ (P (zup hi 22 0 (l2 + (l3 / (hi 19 0 7))) (zor (hi 22 0 (l2 + (l3 / (hi 19 0 7)))) (zshl 1 (l3 % (hi 19 0 7)))))))))))))))) ∧ (hi 19 0 7 ≤ 0 → P hi)))) :
    W1v mX4_mark [.inr (some (19, 0)), .inr (some (22, 0)), .inl l2, .inl l3] hi hr P :=
  WPm.of rfl (show WP mX4_mark 0 [some (.inr (some (19, 0))), some (.inr (some (22, 0))), some (.inl l2), some (.inl l3), none] [] hi hr (zQ1v hr P) from
  WP.iload_n (pc2 := 1) (i := 3) rfl (by decide +kernel) rfl <|
  WP.if_lt (pc2 := 4) (off := 10) (tgt := 11) rfl (by decide +kernel) (by decide) (fun h10 => have f11 := F.1 h10
  WP.vret (by decide +kernel) rfl ⟨rfl, rfl, f11⟩) (fun h10 => have f12 := F.2 h10
  WP.aload_n (pc2 := 5) (i := 0) rfl (by decide +kernel) rfl <|
  WP.getI (pc2 := 8) rfl (by decide +kernel) zc_4 zSh_19 (by decide) rfl lf_X4_27 rfl rfl <|
  WP.if_gt (pc2 := 11) (off := 4) (tgt := 12) rfl (by decide +kernel) (by decide) (fun h7 => have f8 := f12.1 h7
  WP.iload_n (pc2 := 13) (i := 2) rfl (by decide +kernel) rfl <|
  WP.iload_n (pc2 := 14) (i := 3) rfl (by decide +kernel) rfl <|
  WP.aload_n (pc2 := 15) (i := 0) rfl (by decide +kernel) rfl <|
  WP.getI (pc2 := 18) rfl (by decide +kernel) zc_4 zSh_19 (by decide) rfl lf_X4_27 rfl rfl <|
  WP.idiv (pc2 := 19) rfl (by decide +kernel) f8.1.1 f8.1.2 <|
  WP.iadd (pc2 := 20) rfl (by decide +kernel) f8.2.1 <|
  WP.istore (pc2 := 22) (i := 4) rfl (by decide +kernel) (by decide) <|
  WP.iload (pc2 := 24) (i := 4) rfl (by decide +kernel) rfl <|
  WP.if_lt (pc2 := 27) (off := 25) (tgt := 49) rfl (by decide +kernel) (by decide) (fun h4 => have f5 := f8.2.2.1 h4
  WP.vret (by decide +kernel) rfl ⟨rfl, rfl, f5⟩) (fun h4 => have f6 := f8.2.2.2 h4
  WP.iload (pc2 := 29) (i := 4) rfl (by decide +kernel) rfl <|
  WP.aload_n (pc2 := 30) (i := 1) rfl (by decide +kernel) rfl <|
  WP.alen (pc2 := 31) rfl (by decide +kernel) zSh_22 (by decide) (by decide) rfl <|
  WP.icmp_ge (pc2 := 34) (off := 18) (tgt := 49) rfl (by decide +kernel) (by decide) (fun h1 => have f2 := f6.1 h1
  WP.vret (by decide +kernel) rfl ⟨rfl, rfl, f2⟩) (fun h1 => have f3 := f6.2 h1
  WP.aload_n (pc2 := 35) (i := 1) rfl (by decide +kernel) rfl <|
  WP.iload (pc2 := 37) (i := 4) rfl (by decide +kernel) rfl <|
  WP.dup2 (pc2 := 38) rfl (by decide +kernel) <|
  WP.iaload (pc2 := 39) rfl (by decide +kernel) zSh_22 rfl f3.1 rfl <|
  WP.iconst (pc2 := 40) (x := 1) rfl (by decide +kernel) (by decide) <|
  WP.iload_n (pc2 := 41) (i := 3) rfl (by decide +kernel) rfl <|
  WP.aload_n (pc2 := 42) (i := 0) rfl (by decide +kernel) rfl <|
  WP.getI (pc2 := 45) rfl (by decide +kernel) zc_4 zSh_19 (by decide) rfl lf_X4_27 rfl rfl <|
  WP.irem (pc2 := 46) rfl (by decide +kernel) f3.2.1.1 f3.2.1.2 <|
  WP.ishl (pc2 := 47) rfl (by decide +kernel) <|
  WP.ior (pc2 := 48) rfl (by decide +kernel) <|
  WP.iastore (pc2 := 49) rfl (by decide +kernel) zSh_22 rfl f3.2.2.1 <|
  WP.vret (by decide +kernel) rfl ⟨rfl, rfl, f3.2.2.2⟩))) (fun h7 => have f9 := f12.2 h7
  WP.vret (by decide +kernel) rfl ⟨rfl, rfl, f9⟩)))
set_option maxRecDepth 100000 in
set_option maxHeartbeats 4000000 in
theorem GX4_mark_Reached {hi : zI} {hr : zR} {P : zI → Prop} (l2 : Int) (l3 : Int) 
    (F : (l3 < 0 → P hi) ∧ (0 ≤ l3 → ((0 < hi 19 0 7 → ((0 ≤ l3 ∧ 0 < hi 19 0 7) ∧ ((zInR (l2 + (l3 / (hi 19 0 7)))) ∧ ((l2 + (l3 / (hi 19 0 7)) < 0 → P hi) ∧ (0 ≤ l2 + (l3 / (hi 19 0 7)) → ((14448 ≤ l2 + (l3 / (hi 19 0 7)) → P hi) ∧ (l2 + (l3 / (hi 19 0 7)) < 14448 → ((0 ≤ l2 + (l3 / (hi 19 0 7)) ∧ l2 + (l3 / (hi 19 0 7)) < 14448) ∧ ((0 ≤ l3 ∧ 0 < hi 19 0 7) ∧ ((0 ≤ l2 + (l3 / (hi 19 0 7)) ∧ l2 + (l3 / (hi 19 0 7)) < 14448) ∧ (P (zup hi 20 0 (l2 + (l3 / (hi 19 0 7))) (zor (hi 20 0 (l2 + (l3 / (hi 19 0 7)))) (zshl 1 (l3 % (hi 19 0 7)))))))))))))))) ∧ (hi 19 0 7 ≤ 0 → P hi)))) :
    W1v mX4_mark [.inr (some (19, 0)), .inr (some (20, 0)), .inl l2, .inl l3] hi hr P :=
  WPm.of rfl (show WP mX4_mark 0 [some (.inr (some (19, 0))), some (.inr (some (20, 0))), some (.inl l2), some (.inl l3), none] [] hi hr (zQ1v hr P) from
  WP.iload_n (pc2 := 1) (i := 3) rfl (by decide +kernel) rfl <|
  WP.if_lt (pc2 := 4) (off := 10) (tgt := 11) rfl (by decide +kernel) (by decide) (fun h10 => have f11 := F.1 h10
  WP.vret (by decide +kernel) rfl ⟨rfl, rfl, f11⟩) (fun h10 => have f12 := F.2 h10
  WP.aload_n (pc2 := 5) (i := 0) rfl (by decide +kernel) rfl <|
  WP.getI (pc2 := 8) rfl (by decide +kernel) zc_4 zSh_19 (by decide) rfl lf_X4_27 rfl rfl <|
  WP.if_gt (pc2 := 11) (off := 4) (tgt := 12) rfl (by decide +kernel) (by decide) (fun h7 => have f8 := f12.1 h7
  WP.iload_n (pc2 := 13) (i := 2) rfl (by decide +kernel) rfl <|
  WP.iload_n (pc2 := 14) (i := 3) rfl (by decide +kernel) rfl <|
  WP.aload_n (pc2 := 15) (i := 0) rfl (by decide +kernel) rfl <|
  WP.getI (pc2 := 18) rfl (by decide +kernel) zc_4 zSh_19 (by decide) rfl lf_X4_27 rfl rfl <|
  WP.idiv (pc2 := 19) rfl (by decide +kernel) f8.1.1 f8.1.2 <|
  WP.iadd (pc2 := 20) rfl (by decide +kernel) f8.2.1 <|
  WP.istore (pc2 := 22) (i := 4) rfl (by decide +kernel) (by decide) <|
  WP.iload (pc2 := 24) (i := 4) rfl (by decide +kernel) rfl <|
  WP.if_lt (pc2 := 27) (off := 25) (tgt := 49) rfl (by decide +kernel) (by decide) (fun h4 => have f5 := f8.2.2.1 h4
  WP.vret (by decide +kernel) rfl ⟨rfl, rfl, f5⟩) (fun h4 => have f6 := f8.2.2.2 h4
  WP.iload (pc2 := 29) (i := 4) rfl (by decide +kernel) rfl <|
  WP.aload_n (pc2 := 30) (i := 1) rfl (by decide +kernel) rfl <|
  WP.alen (pc2 := 31) rfl (by decide +kernel) zSh_20 (by decide) (by decide) rfl <|
  WP.icmp_ge (pc2 := 34) (off := 18) (tgt := 49) rfl (by decide +kernel) (by decide) (fun h1 => have f2 := f6.1 h1
  WP.vret (by decide +kernel) rfl ⟨rfl, rfl, f2⟩) (fun h1 => have f3 := f6.2 h1
  WP.aload_n (pc2 := 35) (i := 1) rfl (by decide +kernel) rfl <|
  WP.iload (pc2 := 37) (i := 4) rfl (by decide +kernel) rfl <|
  WP.dup2 (pc2 := 38) rfl (by decide +kernel) <|
  WP.iaload (pc2 := 39) rfl (by decide +kernel) zSh_20 rfl f3.1 rfl <|
  WP.iconst (pc2 := 40) (x := 1) rfl (by decide +kernel) (by decide) <|
  WP.iload_n (pc2 := 41) (i := 3) rfl (by decide +kernel) rfl <|
  WP.aload_n (pc2 := 42) (i := 0) rfl (by decide +kernel) rfl <|
  WP.getI (pc2 := 45) rfl (by decide +kernel) zc_4 zSh_19 (by decide) rfl lf_X4_27 rfl rfl <|
  WP.irem (pc2 := 46) rfl (by decide +kernel) f3.2.1.1 f3.2.1.2 <|
  WP.ishl (pc2 := 47) rfl (by decide +kernel) <|
  WP.ior (pc2 := 48) rfl (by decide +kernel) <|
  WP.iastore (pc2 := 49) rfl (by decide +kernel) zSh_20 rfl f3.2.2.1 <|
  WP.vret (by decide +kernel) rfl ⟨rfl, rfl, f3.2.2.2⟩))) (fun h7 => have f9 := f12.2 h7
  WP.vret (by decide +kernel) rfl ⟨rfl, rfl, f9⟩)))
set_option maxRecDepth 100000 in
set_option maxHeartbeats 4000000 in
theorem GX4_mark_Held {hi : zI} {hr : zR} {P : zI → Prop} (ja : Int) (l2 : Int) (l3 : Int) 
    (F : (l3 < 0 → P hi) ∧ (0 ≤ l3 → ((0 < hi 19 0 7 → ((0 ≤ l3 ∧ 0 < hi 19 0 7) ∧ ((zInR (l2 + (l3 / (hi 19 0 7)))) ∧ ((l2 + (l3 / (hi 19 0 7)) < 0 → P hi) ∧ (0 ≤ l2 + (l3 / (hi 19 0 7)) → ((16 ≤ l2 + (l3 / (hi 19 0 7)) → P hi) ∧ (l2 + (l3 / (hi 19 0 7)) < 16 → ((0 ≤ l2 + (l3 / (hi 19 0 7)) ∧ l2 + (l3 / (hi 19 0 7)) < 16) ∧ ((0 ≤ l3 ∧ 0 < hi 19 0 7) ∧ ((0 ≤ l2 + (l3 / (hi 19 0 7)) ∧ l2 + (l3 / (hi 19 0 7)) < 16) ∧ (P (zup hi 23 ja (l2 + (l3 / (hi 19 0 7))) (zor (hi 23 ja (l2 + (l3 / (hi 19 0 7)))) (zshl 1 (l3 % (hi 19 0 7)))))))))))))))) ∧ (hi 19 0 7 ≤ 0 → P hi)))) :
    W1v mX4_mark [.inr (some (19, 0)), .inr (some (23, ja)), .inl l2, .inl l3] hi hr P :=
  WPm.of rfl (show WP mX4_mark 0 [some (.inr (some (19, 0))), some (.inr (some (23, ja))), some (.inl l2), some (.inl l3), none] [] hi hr (zQ1v hr P) from
  WP.iload_n (pc2 := 1) (i := 3) rfl (by decide +kernel) rfl <|
  WP.if_lt (pc2 := 4) (off := 10) (tgt := 11) rfl (by decide +kernel) (by decide) (fun h10 => have f11 := F.1 h10
  WP.vret (by decide +kernel) rfl ⟨rfl, rfl, f11⟩) (fun h10 => have f12 := F.2 h10
  WP.aload_n (pc2 := 5) (i := 0) rfl (by decide +kernel) rfl <|
  WP.getI (pc2 := 8) rfl (by decide +kernel) zc_4 zSh_19 (by decide) rfl lf_X4_27 rfl rfl <|
  WP.if_gt (pc2 := 11) (off := 4) (tgt := 12) rfl (by decide +kernel) (by decide) (fun h7 => have f8 := f12.1 h7
  WP.iload_n (pc2 := 13) (i := 2) rfl (by decide +kernel) rfl <|
  WP.iload_n (pc2 := 14) (i := 3) rfl (by decide +kernel) rfl <|
  WP.aload_n (pc2 := 15) (i := 0) rfl (by decide +kernel) rfl <|
  WP.getI (pc2 := 18) rfl (by decide +kernel) zc_4 zSh_19 (by decide) rfl lf_X4_27 rfl rfl <|
  WP.idiv (pc2 := 19) rfl (by decide +kernel) f8.1.1 f8.1.2 <|
  WP.iadd (pc2 := 20) rfl (by decide +kernel) f8.2.1 <|
  WP.istore (pc2 := 22) (i := 4) rfl (by decide +kernel) (by decide) <|
  WP.iload (pc2 := 24) (i := 4) rfl (by decide +kernel) rfl <|
  WP.if_lt (pc2 := 27) (off := 25) (tgt := 49) rfl (by decide +kernel) (by decide) (fun h4 => have f5 := f8.2.2.1 h4
  WP.vret (by decide +kernel) rfl ⟨rfl, rfl, f5⟩) (fun h4 => have f6 := f8.2.2.2 h4
  WP.iload (pc2 := 29) (i := 4) rfl (by decide +kernel) rfl <|
  WP.aload_n (pc2 := 30) (i := 1) rfl (by decide +kernel) rfl <|
  WP.alen (pc2 := 31) rfl (by decide +kernel) zSh_23 (by decide) (by decide) rfl <|
  WP.icmp_ge (pc2 := 34) (off := 18) (tgt := 49) rfl (by decide +kernel) (by decide) (fun h1 => have f2 := f6.1 h1
  WP.vret (by decide +kernel) rfl ⟨rfl, rfl, f2⟩) (fun h1 => have f3 := f6.2 h1
  WP.aload_n (pc2 := 35) (i := 1) rfl (by decide +kernel) rfl <|
  WP.iload (pc2 := 37) (i := 4) rfl (by decide +kernel) rfl <|
  WP.dup2 (pc2 := 38) rfl (by decide +kernel) <|
  WP.iaload (pc2 := 39) rfl (by decide +kernel) zSh_23 rfl f3.1 rfl <|
  WP.iconst (pc2 := 40) (x := 1) rfl (by decide +kernel) (by decide) <|
  WP.iload_n (pc2 := 41) (i := 3) rfl (by decide +kernel) rfl <|
  WP.aload_n (pc2 := 42) (i := 0) rfl (by decide +kernel) rfl <|
  WP.getI (pc2 := 45) rfl (by decide +kernel) zc_4 zSh_19 (by decide) rfl lf_X4_27 rfl rfl <|
  WP.irem (pc2 := 46) rfl (by decide +kernel) f3.2.1.1 f3.2.1.2 <|
  WP.ishl (pc2 := 47) rfl (by decide +kernel) <|
  WP.ior (pc2 := 48) rfl (by decide +kernel) <|
  WP.iastore (pc2 := 49) rfl (by decide +kernel) zSh_23 rfl f3.2.2.1 <|
  WP.vret (by decide +kernel) rfl ⟨rfl, rfl, f3.2.2.2⟩))) (fun h7 => have f9 := f12.2 h7
  WP.vret (by decide +kernel) rfl ⟨rfl, rfl, f9⟩)))
set_option maxRecDepth 100000 in
set_option maxHeartbeats 4000000 in
theorem GX4_isReached {hi : zI} {hr : zR} {P : Int → Prop} (hR : RSc hr) (l1 : Int) (l2 : Int) 
    (F : (l2 < 0 → P 0) ∧ (0 ≤ l2 → ((0 < hi 19 0 7 → ((0 ≤ l2 ∧ 0 < hi 19 0 7) ∧ ((zInR (l1 + (l2 / (hi 19 0 7)))) ∧ ((l1 + (l2 / (hi 19 0 7)) < 0 → P 0) ∧ (0 ≤ l1 + (l2 / (hi 19 0 7)) → ((14448 ≤ l1 + (l2 / (hi 19 0 7)) → P 0) ∧ (l1 + (l2 / (hi 19 0 7)) < 14448 → ((0 ≤ l1 + (l2 / (hi 19 0 7)) ∧ l1 + (l2 / (hi 19 0 7)) < 14448) ∧ ((0 ≤ l2 ∧ 0 < hi 19 0 7) ∧ ((zand (zushr (hi 20 0 (l1 + (l2 / (hi 19 0 7)))) (l2 % (hi 19 0 7))) 1 = 0 → P 0) ∧ (zand (zushr (hi 20 0 (l1 + (l2 / (hi 19 0 7)))) (l2 % (hi 19 0 7))) 1 ≠ 0 → P 1))))))))))) ∧ (hi 19 0 7 ≤ 0 → P 0)))) :
    W0i mX4_isReached [.inr (some (19, 0)), .inl l1, .inl l2] hi hr P :=
  WPm.of rfl (show WP mX4_isReached 0 [some (.inr (some (19, 0))), some (.inl l1), some (.inl l2), none] [] hi hr (zQ0i hi hr P) from
  WP.iload_n (pc2 := 1) (i := 2) rfl (by decide +kernel) rfl <|
  WP.if_lt (pc2 := 4) (off := 10) (tgt := 11) rfl (by decide +kernel) (by decide) (fun h13 => have f14 := F.1 h13
  WP.iconst (pc2 := 12) (x := 0) rfl (by decide +kernel) (by decide) <|
  WP.zret (by decide +kernel) rfl (by decide) (fun hx => ⟨_, rfl, hx, rfl, rfl, f14⟩)) (fun h13 => have f15 := F.2 h13
  WP.aload_n (pc2 := 5) (i := 0) rfl (by decide +kernel) rfl <|
  WP.getI (pc2 := 8) rfl (by decide +kernel) zc_4 zSh_19 (by decide) rfl lf_X4_27 rfl rfl <|
  WP.if_gt (pc2 := 11) (off := 5) (tgt := 13) rfl (by decide +kernel) (by decide) (fun h10 => have f11 := f15.1 h10
  WP.iload_n (pc2 := 14) (i := 1) rfl (by decide +kernel) rfl <|
  WP.iload_n (pc2 := 15) (i := 2) rfl (by decide +kernel) rfl <|
  WP.aload_n (pc2 := 16) (i := 0) rfl (by decide +kernel) rfl <|
  WP.getI (pc2 := 19) rfl (by decide +kernel) zc_4 zSh_19 (by decide) rfl lf_X4_27 rfl rfl <|
  WP.idiv (pc2 := 20) rfl (by decide +kernel) f11.1.1 f11.1.2 <|
  WP.iadd (pc2 := 21) rfl (by decide +kernel) f11.2.1 <|
  WP.istore_n (pc2 := 22) (i := 3) rfl (by decide +kernel) (by decide) <|
  WP.iload_n (pc2 := 23) (i := 3) rfl (by decide +kernel) rfl <|
  WP.if_lt (pc2 := 26) (off := 34) (tgt := 57) rfl (by decide +kernel) (by decide) (fun h7 => have f8 := f11.2.2.1 h7
  WP.iconst (pc2 := 58) (x := 0) rfl (by decide +kernel) (by decide) <|
  WP.zret (by decide +kernel) rfl (by decide) (fun hx => ⟨_, rfl, hx, rfl, rfl, f8⟩)) (fun h7 => have f9 := f11.2.2.2 h7
  WP.iload_n (pc2 := 27) (i := 3) rfl (by decide +kernel) rfl <|
  WP.aload_n (pc2 := 28) (i := 0) rfl (by decide +kernel) rfl <|
  WP.getR (pc2 := 31) rfl (by decide +kernel) zc_4 zSh_19 (by decide) rfl lf_X4_11 rfl (rs_19_0 hR) <|
  WP.alen (pc2 := 32) rfl (by decide +kernel) zSh_20 (by decide) (by decide) rfl <|
  WP.icmp_ge (pc2 := 35) (off := 25) (tgt := 57) rfl (by decide +kernel) (by decide) (fun h4 => have f5 := f9.1 h4
  WP.iconst (pc2 := 58) (x := 0) rfl (by decide +kernel) (by decide) <|
  WP.zret (by decide +kernel) rfl (by decide) (fun hx => ⟨_, rfl, hx, rfl, rfl, f5⟩)) (fun h4 => have f6 := f9.2 h4
  WP.aload_n (pc2 := 36) (i := 0) rfl (by decide +kernel) rfl <|
  WP.getR (pc2 := 39) rfl (by decide +kernel) zc_4 zSh_19 (by decide) rfl lf_X4_11 rfl (rs_19_0 hR) <|
  WP.iload_n (pc2 := 40) (i := 3) rfl (by decide +kernel) rfl <|
  WP.iaload (pc2 := 41) rfl (by decide +kernel) zSh_20 rfl f6.1 rfl <|
  WP.iload_n (pc2 := 42) (i := 2) rfl (by decide +kernel) rfl <|
  WP.aload_n (pc2 := 43) (i := 0) rfl (by decide +kernel) rfl <|
  WP.getI (pc2 := 46) rfl (by decide +kernel) zc_4 zSh_19 (by decide) rfl lf_X4_27 rfl rfl <|
  WP.irem (pc2 := 47) rfl (by decide +kernel) f6.2.1.1 f6.2.1.2 <|
  WP.iushr (pc2 := 48) rfl (by decide +kernel) <|
  WP.iconst (pc2 := 49) (x := 1) rfl (by decide +kernel) (by decide) <|
  WP.iand (pc2 := 50) rfl (by decide +kernel) <|
  WP.if_eq (pc2 := 53) (off := 7) (tgt := 57) rfl (by decide +kernel) (by decide) (fun h1 => have f2 := f6.2.2.1 h1
  WP.iconst (pc2 := 58) (x := 0) rfl (by decide +kernel) (by decide) <|
  WP.zret (by decide +kernel) rfl (by decide) (fun hx => ⟨_, rfl, hx, rfl, rfl, f2⟩)) (fun h1 => have f3 := f6.2.2.2 h1
  WP.iconst (pc2 := 54) (x := 1) rfl (by decide +kernel) (by decide) <|
  WP.goto (off := 4) (tgt := 58) (by decide +kernel) (by decide) <|
  WP.zret (by decide +kernel) rfl (by decide) (fun hx => ⟨_, rfl, hx, rfl, rfl, f3⟩))))) (fun h10 => have f12 := f15.2 h10
  WP.iconst (pc2 := 12) (x := 0) rfl (by decide +kernel) (by decide) <|
  WP.zret (by decide +kernel) rfl (by decide) (fun hx => ⟨_, rfl, hx, rfl, rfl, f12⟩))))
