set_option maxRecDepth 100000 in
set_option maxHeartbeats 4000000 in
theorem GX4_findTrip {hi : zI} {hr : zR} {P : Int → zI → zR → Prop} (hR : RSc hr) (j1 : Int) (l3 : Int) (l4 : Int) (l5 : Int) (l6 : Int) (hj1 : 0 ≤ j1 ∧ j1 < 2)
    (F : (hi 30 j1 6 ≤ 0 → P 0 hi hr) ∧ (0 < hi 30 j1 6 → ((l3 < 0 → P 0 hi hr) ∧ (0 ≤ l3 → ((l3 < 6 → ((0 ≤ hi 30 j1 5 ∧ 0 < hi 30 j1 6) ∧ (W0i mX10_parkingCell [.inr (some (30, j1)), .inl l3] (zup (zup (zup (zup (zup (zup hi 19 0 7 (hi 30 j1 6)) 19 0 8 (if (hi 30 j1 5) / (hi 30 j1 6) < 16 then (hi 30 j1 5) / (hi 30 j1 6) else 16)) 19 0 9 l3) 19 0 10 l6) 19 0 11 l4) 19 0 12 l5) (zupR (zupR hr 19 0 5 (some (30, j1))) 19 0 6 (some (18, 0))) (fun (x1 : Int) => W1v mX4_markGround [.inr (some (19, 0))] (zup (zup (zup (zup (zup (zup (zup hi 19 0 7 (hi 30 j1 6)) 19 0 8 (if (hi 30 j1 5) / (hi 30 j1 6) < 16 then (hi 30 j1 5) / (hi 30 j1 6) else 16)) 19 0 9 l3) 19 0 10 l6) 19 0 11 l4) 19 0 12 l5) 19 0 13 x1) (zupR (zupR hr 19 0 5 (some (30, j1))) 19 0 6 (some (18, 0))) (fun (hi2 : zI) => W2i mX4_spread [.inr (some (19, 0))] hi2 (zupR (zupR hr 19 0 5 (some (30, j1))) 19 0 6 (some (18, 0))) (fun (x3 : Int) (hi4 : zI) (hr5 : zR) => RSc hr5 ∧ ((x3 ≠ -1 → (W1v mX4_keepWhatLeadsHome [.inr (some (19, 0)), .inl x3] hi4 hr5 (fun (hi6 : zI) => (0 ≤ l3 ∧ l3 < 6) ∧ (W1v mX4_followFirst [.inr (some (19, 0)), .inl x3, .inr (some (25, l3))] hi6 hr5 (fun (hi8 : zI) => P 1 hi8 hr5))))) ∧ (x3 = -1 → P 0 hi4 hr5)))))))) ∧ (6 ≤ l3 → P 0 hi hr)))))) :
    W2i mX4_findTrip [.inr (some (19, 0)), .inr (some (30, j1)), .inr (some (18, 0)), .inl l3, .inl l4, .inl l5, .inl l6] hi hr P :=
  WPm.of rfl (show WP mX4_findTrip 0 [some (.inr (some (19, 0))), some (.inr (some (30, j1))), some (.inr (some (18, 0))), some (.inl l3), some (.inl l4), some (.inl l5), some (.inl l6), none] [] hi hr (zQ2i P) from
  WP.aload_n (pc2 := 1) (i := 1) rfl (by decide +kernel) rfl <|
  WP.ifnull (pc2 := 4) (off := 24) (tgt := 25) rfl (by decide +kernel) (by decide) (fun h => by cases h) (fun _ _ =>
  WP.aload_n (pc2 := 5) (i := 1) rfl (by decide +kernel) rfl <|
  WP.getI (pc2 := 8) rfl (by decide +kernel) zc_10 zSh_30 (by decide) rfl lf_X4_31 rfl rfl <|
  WP.if_le (pc2 := 11) (off := 17) (tgt := 25) rfl (by decide +kernel) (by decide) (fun h23 => have f24 := F.1 h23
  WP.iconst (pc2 := 26) (x := 0) rfl (by decide +kernel) (by decide) <|
  WP.zret (by decide +kernel) rfl (by decide) (fun hx => ⟨_, rfl, hx, trivial, f24⟩)) (fun h23 => have f25 := F.2 h23
  WP.aload_n (pc2 := 12) (i := 2) rfl (by decide +kernel) rfl <|
  WP.ifnull (pc2 := 15) (off := 13) (tgt := 25) rfl (by decide +kernel) (by decide) (fun h => by cases h) (fun _ _ =>
  WP.iload_n (pc2 := 16) (i := 3) rfl (by decide +kernel) rfl <|
  WP.if_lt (pc2 := 19) (off := 9) (tgt := 25) rfl (by decide +kernel) (by decide) (fun h20 => have f21 := f25.1 h20
  WP.iconst (pc2 := 26) (x := 0) rfl (by decide +kernel) (by decide) <|
  WP.zret (by decide +kernel) rfl (by decide) (fun hx => ⟨_, rfl, hx, trivial, f21⟩)) (fun h20 => have f22 := f25.2 h20
  WP.iload_n (pc2 := 20) (i := 3) rfl (by decide +kernel) rfl <|
  WP.aload_n (pc2 := 21) (i := 2) rfl (by decide +kernel) rfl <|
  WP.alen (pc2 := 22) rfl (by decide +kernel) zSh_18 (by decide) (by decide) rfl <|
  WP.icmp_lt (pc2 := 25) (off := 5) (tgt := 27) rfl (by decide +kernel) (by decide) (fun h17 => have f18 := f22.1 h17
  WP.aload_n (pc2 := 28) (i := 0) rfl (by decide +kernel) rfl <|
  WP.aload_n (pc2 := 29) (i := 1) rfl (by decide +kernel) rfl <|
  WP.putR (pc2 := 32) rfl (by decide +kernel) zc_4 zSh_19 (by decide) rfl lf_X4_34 rfl (Or.inl ⟨_, rfl⟩) rfl <|
  WP.aload_n (pc2 := 33) (i := 0) rfl (by decide +kernel) rfl <|
  WP.aload_n (pc2 := 34) (i := 2) rfl (by decide +kernel) rfl <|
  WP.putR (pc2 := 37) rfl (by decide +kernel) zc_4 zSh_19 (by decide) rfl lf_X4_38 rfl (Or.inr ⟨_, rfl⟩) rfl <|
  WP.aload_n (pc2 := 38) (i := 0) rfl (by decide +kernel) rfl <|
  WP.aload_n (pc2 := 39) (i := 1) rfl (by decide +kernel) rfl <|
  WP.getI (pc2 := 42) rfl (by decide +kernel) zc_10 zSh_30 (by decide) rfl lf_X4_31 rfl rfl <|
  WP.putI (pc2 := 45) rfl (by decide +kernel) zc_4 zSh_19 (by decide) rfl lf_X4_27 rfl (z_int _) rfl <|
  WP.aload_n (pc2 := 46) (i := 0) rfl (by decide +kernel) rfl <|
  WP.bipush (pc2 := 48) (x := 16) rfl (by decide +kernel) ⟨by decide +kernel, by decide⟩ <|
  WP.aload_n (pc2 := 49) (i := 1) rfl (by decide +kernel) rfl <|
  WP.getI (pc2 := 52) rfl (by decide +kernel) zc_10 zSh_30 (by decide) rfl lf_X4_42 rfl (zup_k _ _ _ _ _ _ (by decide)) <|
  WP.aload_n (pc2 := 53) (i := 0) rfl (by decide +kernel) rfl <|
  WP.getI (pc2 := 56) rfl (by decide +kernel) zc_4 zSh_19 (by decide) rfl lf_X4_27 rfl (zup_s _ _ _ _ _) <|
  WP.idiv (pc2 := 57) rfl (by decide +kernel) f18.1.1 f18.1.2 <|
  WP.mmin (pc2 := 60) rfl (by decide +kernel) lm_X4_45 (by decide) (Nat.le_of_ble_eq_true rfl) <|
  WP.putI (pc2 := 63) rfl (by decide +kernel) zc_4 zSh_19 (by decide) rfl lf_X4_51 rfl (z_int _) rfl <|
  WP.aload_n (pc2 := 64) (i := 0) rfl (by decide +kernel) rfl <|
  WP.iload_n (pc2 := 65) (i := 3) rfl (by decide +kernel) rfl <|
  WP.putI (pc2 := 68) rfl (by decide +kernel) zc_4 zSh_19 (by decide) rfl lf_X4_54 rfl (z_int _) rfl <|
  WP.aload_n (pc2 := 69) (i := 0) rfl (by decide +kernel) rfl <|
  WP.iload (pc2 := 71) (i := 6) rfl (by decide +kernel) rfl <|
  WP.putI (pc2 := 74) rfl (by decide +kernel) zc_4 zSh_19 (by decide) rfl lf_X4_57 rfl (z_int _) rfl <|
  WP.aload_n (pc2 := 75) (i := 0) rfl (by decide +kernel) rfl <|
  WP.iload (pc2 := 77) (i := 4) rfl (by decide +kernel) rfl <|
  WP.putI (pc2 := 80) rfl (by decide +kernel) zc_4 zSh_19 (by decide) rfl lf_X4_60 rfl (z_int _) rfl <|
  WP.aload_n (pc2 := 81) (i := 0) rfl (by decide +kernel) rfl <|
  WP.iload (pc2 := 83) (i := 5) rfl (by decide +kernel) rfl <|
  WP.putI (pc2 := 86) rfl (by decide +kernel) zc_4 zSh_19 (by decide) rfl lf_X4_63 rfl (z_int _) rfl <|
  WP.aload_n (pc2 := 87) (i := 0) rfl (by decide +kernel) rfl <|
  WP.aload_n (pc2 := 88) (i := 1) rfl (by decide +kernel) rfl <|
  WP.iload_n (pc2 := 89) (i := 3) rfl (by decide +kernel) rfl <|
  WP.callV (y := mX4_findTrip) (index := 66) (pc2 := 92) (y' := mX10_parkingCell) (vs := [.inl l3]) rfl (by decide +kernel) okX10_parkingCell ⟨by decide, by decide⟩ ⟨lm_X4_66, ivX10_parkingCell⟩ zSh_30 zc_10 (Nat.le_of_ble_eq_true rfl) ⟨rfl, rfl⟩ rfl (WP.c0i f18.2 (fun x1 _ f16 =>
  WP.putI (pc2 := 95) rfl (by decide +kernel) zc_4 zSh_19 (by decide) rfl lf_X4_70 rfl (z_int _) rfl <|
  WP.aload_n (pc2 := 96) (i := 0) rfl (by decide +kernel) rfl <|
  WP.callV (y := mX4_findTrip) (index := 73) (pc2 := 99) (y' := mX4_markGround) (vs := []) rfl (by decide +kernel) okX4_markGround ⟨by decide, by decide⟩ ⟨lm_X4_73, ivX4_markGround⟩ zSh_19 zc_4 (Nat.le_of_ble_eq_true rfl) ⟨rfl, rfl⟩ rfl (WP.c1v f16 (fun hi2 f15 =>
  WP.aload_n (pc2 := 100) (i := 0) rfl (by decide +kernel) rfl <|
  WP.callV (y := mX4_findTrip) (index := 76) (pc2 := 103) (y' := mX4_spread) (vs := []) rfl (by decide +kernel) okX4_spread ⟨by decide, by decide⟩ ⟨lm_X4_76, ivX4_spread⟩ zSh_19 zc_4 (Nat.le_of_ble_eq_true rfl) ⟨rfl, rfl⟩ rfl (WP.c2i f15 (fun x3 hi4 hr5 _ f14 =>
  have hRxhr5 := f14.1
  WP.istore (pc2 := 105) (i := 7) rfl (by decide +kernel) (by decide) <|
  WP.iload (pc2 := 107) (i := 7) rfl (by decide +kernel) rfl <|
  WP.iconst (pc2 := 108) (x := -1) rfl (by decide +kernel) (by decide) <|
  WP.icmp_ne (pc2 := 111) (off := 5) (tgt := 113) rfl (by decide +kernel) (by decide) (fun h11 => have f12 := f14.2.1 h11
  WP.aload_n (pc2 := 114) (i := 0) rfl (by decide +kernel) rfl <|
  WP.iload (pc2 := 116) (i := 7) rfl (by decide +kernel) rfl <|
  WP.callV (y := mX4_findTrip) (index := 80) (pc2 := 119) (y' := mX4_keepWhatLeadsHome) (vs := [.inl x3]) rfl (by decide +kernel) okX4_keepWhatLeadsHome ⟨by decide, by decide⟩ ⟨lm_X4_80, ivX4_keepWhatLeadsHome⟩ zSh_19 zc_4 (Nat.le_of_ble_eq_true rfl) ⟨rfl, rfl⟩ rfl (WP.c1v f12 (fun hi6 f10 =>
  WP.aload_n (pc2 := 120) (i := 0) rfl (by decide +kernel) rfl <|
  WP.iload (pc2 := 122) (i := 7) rfl (by decide +kernel) rfl <|
  WP.aload_n (pc2 := 123) (i := 2) rfl (by decide +kernel) rfl <|
  WP.iload_n (pc2 := 124) (i := 3) rfl (by decide +kernel) rfl <|
  WP.aaload (pc2 := 125) rfl (by decide +kernel) zSh_18 (by decide) rfl f10.1 (rs_18_e hRxhr5 l3 f10.1) <|
  WP.getR (pc2 := 128) rfl (by decide +kernel) zc_0 zSh_24 (by decide) rfl lf_X4_84 rfl (rs_24_0 hRxhr5 l3 (f10.1)) <|
  WP.callV (y := mX4_findTrip) (index := 90) (pc2 := 131) (y' := mX4_followFirst) (vs := [.inl x3, .inr (some (25, l3))]) rfl (by decide +kernel) okX4_followFirst ⟨by decide, by decide⟩ ⟨lm_X4_90, ivX4_followFirst⟩ zSh_19 zc_4 (Nat.le_of_ble_eq_true rfl) ⟨rfl, rfl⟩ rfl (WP.c1v f10.2 (fun hi8 f9 =>
  WP.iconst (pc2 := 132) (x := 1) rfl (by decide +kernel) (by decide) <|
  WP.zret (by decide +kernel) rfl (by decide) (fun hx => ⟨_, rfl, hx, trivial, f9⟩)))))) (fun h11 => have f13 := f14.2.2 h11
  WP.iconst (pc2 := 112) (x := 0) rfl (by decide +kernel) (by decide) <|
  WP.zret (by decide +kernel) rfl (by decide) (fun hx => ⟨_, rfl, hx, trivial, f13⟩))))))))) (fun h17 => have f19 := f22.2 h17
  WP.iconst (pc2 := 26) (x := 0) rfl (by decide +kernel) (by decide) <|
  WP.zret (by decide +kernel) rfl (by decide) (fun hx => ⟨_, rfl, hx, trivial, f19⟩)))))))
set_option maxRecDepth 100000 in
set_option maxHeartbeats 4000000 in
theorem GX4_markGround {hi : zI} {hr : zR} {P : zI → Prop} (hR : RSc hr)  
    (F : W1v mJ7_fill_d0a16 [.inr (some (21, 0)), .lo 0] hi hr (fun (hi1 : zI) => WP mX4_markGround 10 [some (.inr (some (19, 0))), some (.inl 0)] [] hi1 hr (zQ1v hr P))) :
    W1v mX4_markGround [.inr (some (19, 0))] hi hr P :=
  WPm.of rfl (show WP mX4_markGround 0 [some (.inr (some (19, 0))), none] [] hi hr (zQ1v hr P) from
  WP.aload_n (pc2 := 1) (i := 0) rfl (by decide +kernel) rfl <|
  WP.getR (pc2 := 4) rfl (by decide +kernel) zc_4 zSh_19 (by decide) rfl lf_X4_15 rfl (rs_19_1 hR) <|
  WP.lconst (pc2 := 5) (x := 0) (i := 0) rfl rfl (by decide +kernel) <|
  WP.callS (y := mX4_markGround) (index := 94) (pc2 := 8) (y' := mJ7_fill_d0a16) (vs := [.inr (some (21, 0)), .lo 0]) rfl (by decide +kernel) okJ7_fill_d0a16 ⟨by decide, by decide⟩ ⟨lm_X4_94, ivJ7_fill_d0a16⟩ (Nat.le_of_ble_eq_true rfl) ⟨rfl, rfl⟩ rfl (WP.c1v F (fun hi1 f2 =>
  WP.iconst (pc2 := 9) (x := 0) rfl (by decide +kernel) (by decide) <|
  WP.istore_n (pc2 := 10) (i := 1) rfl (by decide +kernel) (by decide) <|
  f2)))

set_option maxRecDepth 100000 in
set_option maxHeartbeats 4000000 in
theorem GX4_markGround_10 {hi : zI} {hr : zR} {P : zI → Prop} (hR : RSc hr) (a1 : Int) 
    (F : ∃ j3 : Int, hr 19 0 5 = some (30, j3) ∧ (0 ≤ j3 ∧ j3 < 2) ∧ ((hi 30 j3 5 ≤ a1 → (W1v mJ7_fill_d0a16 [.inr (some (22, 0)), .lo 0] hi hr (fun (hi5 : zI) => W1v mX4_mark [.inr (some (19, 0)), .inr (some (22, 0)), .inl 0, .inl 0, .inl (hi5 19 0 11)] hi5 hr (fun (hi6 : zI) => W1v mX4_mark [.inr (some (19, 0)), .inr (some (22, 0)), .inl 0, .inl 1, .inl (hi6 19 0 12)] hi6 hr (fun (hi7 : zI) => P hi7))))) ∧ (a1 < hi 30 j3 5 → (W0i mX10_kindOf [.inr (some (30, j3)), .inl a1] hi hr (fun (x11 : Int) => (x11 = 1 → (W1v mX4_markAllStages [.inr (some (19, 0)), .inr (some (21, 0)), .inl a1] hi hr (fun (hi12 : zI) => (zInR (a1 + 1)) ∧ (WP mX4_markGround 10 [some (.inr (some (19, 0))), some (.inl (a1 + 1))] [] hi12 hr (zQ1v hr P))))) ∧ (x11 ≠ 1 → ((a1 = hi 19 0 11 → (W1v mX4_markAllStages [.inr (some (19, 0)), .inr (some (21, 0)), .inl a1] hi hr (fun (hi14 : zI) => (zInR (a1 + 1)) ∧ (WP mX4_markGround 10 [some (.inr (some (19, 0))), some (.inl (a1 + 1))] [] hi14 hr (zQ1v hr P))))) ∧ (a1 ≠ hi 19 0 11 → ((a1 = hi 19 0 12 → (W1v mX4_markAllStages [.inr (some (19, 0)), .inr (some (21, 0)), .inl a1] hi hr (fun (hi16 : zI) => (zInR (a1 + 1)) ∧ (WP mX4_markGround 10 [some (.inr (some (19, 0))), some (.inl (a1 + 1))] [] hi16 hr (zQ1v hr P))))) ∧ (a1 ≠ hi 19 0 12 → ((a1 ≠ hi 19 0 13 → ((zInR (a1 + 1)) ∧ (WP mX4_markGround 10 [some (.inr (some (19, 0))), some (.inl (a1 + 1))] [] hi hr (zQ1v hr P)))) ∧ (a1 = hi 19 0 13 → (W1v mX4_markAllStages [.inr (some (19, 0)), .inr (some (21, 0)), .inl a1] hi hr (fun (hi18 : zI) => (zInR (a1 + 1)) ∧ (WP mX4_markGround 10 [some (.inr (some (19, 0))), some (.inl (a1 + 1))] [] hi18 hr (zQ1v hr P)))))))))))))))) :
    WP mX4_markGround 10 [some (.inr (some (19, 0))), some (.inl a1)] [] hi hr (zQ1v hr P) :=
  WP.iload_n (pc2 := 11) (i := 1) rfl (by decide +kernel) rfl <|
  WP.aload_n (pc2 := 12) (i := 0) rfl (by decide +kernel) rfl <|
  Exists.elim F (fun j3 f36 => have e4 := f36.1; have e4r := f36.2.1
  WP.getR (pc2 := 15) rfl (by decide +kernel) zc_4 zSh_19 (by decide) rfl lf_X4_34 rfl e4 <|
  WP.getI (pc2 := 18) rfl (by decide +kernel) zc_10 zSh_30 (by decide) rfl lf_X4_42 rfl rfl <|
  WP.icmp_ge (pc2 := 21) (off := 54) (tgt := 72) rfl (by decide +kernel) (by decide) (fun h33 => have f34 := f36.2.2.1 h33
  WP.aload_n (pc2 := 73) (i := 0) rfl (by decide +kernel) rfl <|
  WP.getR (pc2 := 76) rfl (by decide +kernel) zc_4 zSh_19 (by decide) rfl lf_X4_18 rfl (rs_19_2 hR) <|
  WP.lconst (pc2 := 77) (x := 0) (i := 0) rfl rfl (by decide +kernel) <|
  WP.callS (y := mX4_markGround) (index := 94) (pc2 := 80) (y' := mJ7_fill_d0a16) (vs := [.inr (some (22, 0)), .lo 0]) rfl (by decide +kernel) okJ7_fill_d0a16 ⟨by decide, by decide⟩ ⟨lm_X4_94, ivJ7_fill_d0a16⟩ (Nat.le_of_ble_eq_true rfl) ⟨rfl, rfl⟩ rfl (WP.c1v f34 (fun hi5 f10 =>
  WP.aload_n (pc2 := 81) (i := 0) rfl (by decide +kernel) rfl <|
  WP.aload_n (pc2 := 82) (i := 0) rfl (by decide +kernel) rfl <|
  WP.getR (pc2 := 85) rfl (by decide +kernel) zc_4 zSh_19 (by decide) rfl lf_X4_18 rfl (rs_19_2 hR) <|
  WP.iconst (pc2 := 86) (x := 0) rfl (by decide +kernel) (by decide) <|
  WP.iconst (pc2 := 87) (x := 0) rfl (by decide +kernel) (by decide) <|
  WP.aload_n (pc2 := 88) (i := 0) rfl (by decide +kernel) rfl <|
  WP.getI (pc2 := 91) rfl (by decide +kernel) zc_4 zSh_19 (by decide) rfl lf_X4_60 rfl rfl <|
  WP.callV (y := mX4_markGround) (index := 107) (pc2 := 94) (y' := mX4_mark) (vs := [.inr (some (22, 0)), .inl 0, .inl 0, .inl (hi5 19 0 11)]) rfl (by decide +kernel) okX4_mark ⟨by decide, by decide⟩ ⟨lm_X4_107, ivX4_mark⟩ zSh_19 zc_4 (Nat.le_of_ble_eq_true rfl) ⟨rfl, rfl⟩ rfl (WP.c1v f10 (fun hi6 f9 =>
  WP.aload_n (pc2 := 95) (i := 0) rfl (by decide +kernel) rfl <|
  WP.aload_n (pc2 := 96) (i := 0) rfl (by decide +kernel) rfl <|
  WP.getR (pc2 := 99) rfl (by decide +kernel) zc_4 zSh_19 (by decide) rfl lf_X4_18 rfl (rs_19_2 hR) <|
  WP.iconst (pc2 := 100) (x := 0) rfl (by decide +kernel) (by decide) <|
  WP.iconst (pc2 := 101) (x := 1) rfl (by decide +kernel) (by decide) <|
  WP.aload_n (pc2 := 102) (i := 0) rfl (by decide +kernel) rfl <|
  WP.getI (pc2 := 105) rfl (by decide +kernel) zc_4 zSh_19 (by decide) rfl lf_X4_63 rfl rfl <|
  WP.callV (y := mX4_markGround) (index := 107) (pc2 := 108) (y' := mX4_mark) (vs := [.inr (some (22, 0)), .inl 0, .inl 1, .inl (hi6 19 0 12)]) rfl (by decide +kernel) okX4_mark ⟨by decide, by decide⟩ ⟨lm_X4_107, ivX4_mark⟩ zSh_19 zc_4 (Nat.le_of_ble_eq_true rfl) ⟨rfl, rfl⟩ rfl (WP.c1v f9 (fun hi7 f8 =>
  WP.vret (by decide +kernel) rfl ⟨rfl, rfl, f8⟩))))))) (fun h33 => have f35 := f36.2.2.2 h33
  WP.aload_n (pc2 := 22) (i := 0) rfl (by decide +kernel) rfl <|
  WP.getR (pc2 := 25) rfl (by decide +kernel) zc_4 zSh_19 (by decide) rfl lf_X4_34 rfl e4 <|
  WP.iload_n (pc2 := 26) (i := 1) rfl (by decide +kernel) rfl <|
  WP.callV (y := mX4_markGround) (index := 100) (pc2 := 29) (y' := mX10_kindOf) (vs := [.inl a1]) rfl (by decide +kernel) okX10_kindOf ⟨by decide, by decide⟩ ⟨lm_X4_100, ivX10_kindOf⟩ zSh_30 zc_10 (Nat.le_of_ble_eq_true rfl) ⟨rfl, rfl⟩ rfl (WP.c0i f35 (fun x11 _ f32 =>
  WP.iconst (pc2 := 30) (x := 1) rfl (by decide +kernel) (by decide) <|
  WP.icmp_eq (pc2 := 33) (off := 27) (tgt := 57) rfl (by decide +kernel) (by decide) (fun h29 => have f30 := f32.1 h29
  WP.aload_n (pc2 := 58) (i := 0) rfl (by decide +kernel) rfl <|
  WP.aload_n (pc2 := 59) (i := 0) rfl (by decide +kernel) rfl <|
  WP.getR (pc2 := 62) rfl (by decide +kernel) zc_4 zSh_19 (by decide) rfl lf_X4_15 rfl (rs_19_1 hR) <|
  WP.iload_n (pc2 := 63) (i := 1) rfl (by decide +kernel) rfl <|
  WP.callV (y := mX4_markGround) (index := 103) (pc2 := 66) (y' := mX4_markAllStages) (vs := [.inr (some (21, 0)), .inl a1]) rfl (by decide +kernel) okX4_markAllStages ⟨by decide, by decide⟩ ⟨lm_X4_103, ivX4_markAllStages⟩ zSh_19 zc_4 (Nat.le_of_ble_eq_true rfl) ⟨rfl, rfl⟩ rfl (WP.c1v f30 (fun hi12 f13 =>
  WP.iinc (pc2 := 69) (i := 1) (d := 1) rfl (by decide +kernel) rfl f13.1 <|
  WP.goto (off := -59) (tgt := 10) (by decide +kernel) (by decide) <|
  f13.2))) (fun h29 => have f31 := f32.2 h29
  WP.iload_n (pc2 := 34) (i := 1) rfl (by decide +kernel) rfl <|
  WP.aload_n (pc2 := 35) (i := 0) rfl (by decide +kernel) rfl <|
  WP.getI (pc2 := 38) rfl (by decide +kernel) zc_4 zSh_19 (by decide) rfl lf_X4_60 rfl rfl <|
  WP.icmp_eq (pc2 := 41) (off := 19) (tgt := 57) rfl (by decide +kernel) (by decide) (fun h26 => have f27 := f31.1 h26
  WP.aload_n (pc2 := 58) (i := 0) rfl (by decide +kernel) rfl <|
  WP.aload_n (pc2 := 59) (i := 0) rfl (by decide +kernel) rfl <|
  WP.getR (pc2 := 62) rfl (by decide +kernel) zc_4 zSh_19 (by decide) rfl lf_X4_15 rfl (rs_19_1 hR) <|
  WP.iload_n (pc2 := 63) (i := 1) rfl (by decide +kernel) rfl <|
  WP.callV (y := mX4_markGround) (index := 103) (pc2 := 66) (y' := mX4_markAllStages) (vs := [.inr (some (21, 0)), .inl a1]) rfl (by decide +kernel) okX4_markAllStages ⟨by decide, by decide⟩ ⟨lm_X4_103, ivX4_markAllStages⟩ zSh_19 zc_4 (Nat.le_of_ble_eq_true rfl) ⟨rfl, rfl⟩ rfl (WP.c1v f27 (fun hi14 f15 =>
  WP.iinc (pc2 := 69) (i := 1) (d := 1) rfl (by decide +kernel) rfl f15.1 <|
  WP.goto (off := -59) (tgt := 10) (by decide +kernel) (by decide) <|
  f15.2))) (fun h26 => have f28 := f31.2 h26
  WP.iload_n (pc2 := 42) (i := 1) rfl (by decide +kernel) rfl <|
  WP.aload_n (pc2 := 43) (i := 0) rfl (by decide +kernel) rfl <|
  WP.getI (pc2 := 46) rfl (by decide +kernel) zc_4 zSh_19 (by decide) rfl lf_X4_63 rfl rfl <|
  WP.icmp_eq (pc2 := 49) (off := 11) (tgt := 57) rfl (by decide +kernel) (by decide) (fun h23 => have f24 := f28.1 h23
  WP.aload_n (pc2 := 58) (i := 0) rfl (by decide +kernel) rfl <|
  WP.aload_n (pc2 := 59) (i := 0) rfl (by decide +kernel) rfl <|
  WP.getR (pc2 := 62) rfl (by decide +kernel) zc_4 zSh_19 (by decide) rfl lf_X4_15 rfl (rs_19_1 hR) <|
  WP.iload_n (pc2 := 63) (i := 1) rfl (by decide +kernel) rfl <|
  WP.callV (y := mX4_markGround) (index := 103) (pc2 := 66) (y' := mX4_markAllStages) (vs := [.inr (some (21, 0)), .inl a1]) rfl (by decide +kernel) okX4_markAllStages ⟨by decide, by decide⟩ ⟨lm_X4_103, ivX4_markAllStages⟩ zSh_19 zc_4 (Nat.le_of_ble_eq_true rfl) ⟨rfl, rfl⟩ rfl (WP.c1v f24 (fun hi16 f17 =>
  WP.iinc (pc2 := 69) (i := 1) (d := 1) rfl (by decide +kernel) rfl f17.1 <|
  WP.goto (off := -59) (tgt := 10) (by decide +kernel) (by decide) <|
  f17.2))) (fun h23 => have f25 := f28.2 h23
  WP.iload_n (pc2 := 50) (i := 1) rfl (by decide +kernel) rfl <|
  WP.aload_n (pc2 := 51) (i := 0) rfl (by decide +kernel) rfl <|
  WP.getI (pc2 := 54) rfl (by decide +kernel) zc_4 zSh_19 (by decide) rfl lf_X4_70 rfl rfl <|
  WP.icmp_ne (pc2 := 57) (off := 12) (tgt := 66) rfl (by decide +kernel) (by decide) (fun h20 => have f21 := f25.1 h20
  WP.iinc (pc2 := 69) (i := 1) (d := 1) rfl (by decide +kernel) rfl f21.1 <|
  WP.goto (off := -59) (tgt := 10) (by decide +kernel) (by decide) <|
  f21.2) (fun h20 => have f22 := f25.2 h20
  WP.aload_n (pc2 := 58) (i := 0) rfl (by decide +kernel) rfl <|
  WP.aload_n (pc2 := 59) (i := 0) rfl (by decide +kernel) rfl <|
  WP.getR (pc2 := 62) rfl (by decide +kernel) zc_4 zSh_19 (by decide) rfl lf_X4_15 rfl (rs_19_1 hR) <|
  WP.iload_n (pc2 := 63) (i := 1) rfl (by decide +kernel) rfl <|
  WP.callV (y := mX4_markGround) (index := 103) (pc2 := 66) (y' := mX4_markAllStages) (vs := [.inr (some (21, 0)), .inl a1]) rfl (by decide +kernel) okX4_markAllStages ⟨by decide, by decide⟩ ⟨lm_X4_103, ivX4_markAllStages⟩ zSh_19 zc_4 (Nat.le_of_ble_eq_true rfl) ⟨rfl, rfl⟩ rfl (WP.c1v f22 (fun hi18 f19 =>
  WP.iinc (pc2 := 69) (i := 1) (d := 1) rfl (by decide +kernel) rfl f19.1 <|
  WP.goto (off := -59) (tgt := 10) (by decide +kernel) (by decide) <|
  f19.2))))))))))
set_option maxRecDepth 100000 in
set_option maxHeartbeats 4000000 in
theorem GX4_spread {hi : zI} {hr : zR} {P : Int → zI → zR → Prop} (hR : RSc hr)  
    (F : W1v mX4_clearStep [.inr (some (19, 0)), .inl 0] hi hr (fun (hi1 : zI) => W1v mX4_mark [.inr (some (19, 0)), .inr (some (20, 0)), .inl 0, .inl 0, .inl (hi1 19 0 13)] hi1 hr (fun (hi2 : zI) => W1v mX4_markHeld [.inr (some (19, 0)), .inl (hi2 19 0 10)] hi2 hr (fun (hi3 : zI) => WP mX4_spread 29 [some (.inr (some (19, 0))), some (.inl 0), none] [] hi3 hr (zQ2i P))))) :
    W2i mX4_spread [.inr (some (19, 0))] hi hr P :=
  WPm.of rfl (show WP mX4_spread 0 [some (.inr (some (19, 0))), none, none] [] hi hr (zQ2i P) from
  WP.aload_n (pc2 := 1) (i := 0) rfl (by decide +kernel) rfl <|
  WP.iconst (pc2 := 2) (x := 0) rfl (by decide +kernel) (by decide) <|
  WP.callV (y := mX4_spread) (index := 111) (pc2 := 5) (y' := mX4_clearStep) (vs := [.inl 0]) rfl (by decide +kernel) okX4_clearStep ⟨by decide, by decide⟩ ⟨lm_X4_111, ivX4_clearStep⟩ zSh_19 zc_4 (Nat.le_of_ble_eq_true rfl) ⟨rfl, rfl⟩ rfl (WP.c1v F (fun hi1 f6 =>
  WP.aload_n (pc2 := 6) (i := 0) rfl (by decide +kernel) rfl <|
  WP.aload_n (pc2 := 7) (i := 0) rfl (by decide +kernel) rfl <|
  WP.getR (pc2 := 10) rfl (by decide +kernel) zc_4 zSh_19 (by decide) rfl lf_X4_9 rfl (rs_19_0 hR) <|
  WP.iconst (pc2 := 11) (x := 0) rfl (by decide +kernel) (by decide) <|
  WP.iconst (pc2 := 12) (x := 0) rfl (by decide +kernel) (by decide) <|
  WP.aload_n (pc2 := 13) (i := 0) rfl (by decide +kernel) rfl <|
  WP.getI (pc2 := 16) rfl (by decide +kernel) zc_4 zSh_19 (by decide) rfl lf_X4_70 rfl rfl <|
  WP.callV (y := mX4_spread) (index := 107) (pc2 := 19) (y' := mX4_mark) (vs := [.inr (some (20, 0)), .inl 0, .inl 0, .inl (hi1 19 0 13)]) rfl (by decide +kernel) okX4_mark ⟨by decide, by decide⟩ ⟨lm_X4_107, ivX4_mark⟩ zSh_19 zc_4 (Nat.le_of_ble_eq_true rfl) ⟨rfl, rfl⟩ rfl (WP.c1v f6 (fun hi2 f5 =>
  WP.aload_n (pc2 := 20) (i := 0) rfl (by decide +kernel) rfl <|
  WP.aload_n (pc2 := 21) (i := 0) rfl (by decide +kernel) rfl <|
  WP.getI (pc2 := 24) rfl (by decide +kernel) zc_4 zSh_19 (by decide) rfl lf_X4_57 rfl rfl <|
  WP.callV (y := mX4_spread) (index := 114) (pc2 := 27) (y' := mX4_markHeld) (vs := [.inl (hi2 19 0 10)]) rfl (by decide +kernel) okX4_markHeld ⟨by decide, by decide⟩ ⟨lm_X4_114, ivX4_markHeld⟩ zSh_19 zc_4 (Nat.le_of_ble_eq_true rfl) ⟨rfl, rfl⟩ rfl (WP.c1v f5 (fun hi3 f4 =>
  WP.iconst (pc2 := 28) (x := 0) rfl (by decide +kernel) (by decide) <|
  WP.istore_n (pc2 := 29) (i := 1) rfl (by decide +kernel) (by decide) <|
  f4)))))))

set_option maxRecDepth 100000 in
set_option maxHeartbeats 4000000 in
theorem GX4_spread_29 {hi : zI} {hr : zR} {P : Int → zI → zR → Prop} (a1 : Int) (u2 : Option zV) 
    (F : (300 ≤ a1 → (P (-1) hi hr)) ∧ (a1 < 300 → (∃ j27 : Int, hr 19 0 3 = some (23, j27) ∧ (0 ≤ j27 ∧ j27 < 2) ∧ (∃ j29 : Int, hr 19 0 4 = some (23, j29) ∧ (0 ≤ j29 ∧ j29 < 2) ∧ ((zInR ((hi 19 0 10) + a1)) ∧ ((zInR (((hi 19 0 10) + a1) + 1)) ∧ (W1v mX4_markHeld [.inr (some (19, 0)), .inl (((hi 19 0 10) + a1) + 1)] hi (zupR (zupR hr 19 0 3 (some (23, j29))) 19 0 4 (some (23, j27))) (fun (hi31 : zI) => W1v mX4_dropEntered [.inr (some (19, 0)), .inl a1] hi31 (zupR (zupR hr 19 0 3 (some (23, j29))) 19 0 4 (some (23, j27))) (fun (hi32 : zI) => W1v mX4_spreadStep [.inr (some (19, 0)), .inl a1] hi32 (zupR (zupR hr 19 0 3 (some (23, j29))) 19 0 4 (some (23, j27))) (fun (hi33 : zI) => (zInR (a1 + 1)) ∧ (W0i mX4_isReached [.inr (some (19, 0)), .inl (a1 + 1), .inl 2, .inl (hi33 19 0 13)] hi33 (zupR (zupR hr 19 0 3 (some (23, j29))) 19 0 4 (some (23, j27))) (fun (x34 : Int) => (x34 = 0 → ((zInR (a1 + 1)) ∧ (WP mX4_spread 29 [some (.inr (some (19, 0))), some (.inl (a1 + 1)), some (.inr (some (23, j27)))] [] hi33 (zupR (zupR hr 19 0 3 (some (23, j29))) 19 0 4 (some (23, j27))) (zQ2i P)))) ∧ (x34 ≠ 0 → ((zInR (a1 + 1)) ∧ (P (a1 + 1) hi33 (zupR (zupR hr 19 0 3 (some (23, j29))) 19 0 4 (some (23, j27)))))))))))))))))) :
    WP mX4_spread 29 [some (.inr (some (19, 0))), some (.inl a1), u2] [] hi hr (zQ2i P) :=
  WP.iload_n (pc2 := 30) (i := 1) rfl (by decide +kernel) rfl <|
  WP.sipush (pc2 := 33) (x := 300) rfl (by decide +kernel) ⟨by decide +kernel, by decide⟩ <|
  WP.icmp_ge (pc2 := 36) (off := 68) (tgt := 101) rfl (by decide +kernel) (by decide) (fun h44 => have f45 := F.1 h44
  WP.iconst (pc2 := 102) (x := -1) rfl (by decide +kernel) (by decide) <|
  WP.iret (by decide +kernel) rfl (fun hx => ⟨_, rfl, hx, trivial, f45⟩)) (fun h44 => have f46 := F.2 h44
  WP.aload_n (pc2 := 37) (i := 0) rfl (by decide +kernel) rfl <|
  Exists.elim f46 (fun j27 f43 => have e28 := f43.1; have e28r := f43.2.1
  WP.getR (pc2 := 40) rfl (by decide +kernel) zc_4 zSh_19 (by decide) rfl lf_X4_21 rfl e28 <|
  WP.astore_n (pc2 := 41) (i := 2) rfl (by decide +kernel) (by decide) <|
  WP.aload_n (pc2 := 42) (i := 0) rfl (by decide +kernel) rfl <|
  WP.aload_n (pc2 := 43) (i := 0) rfl (by decide +kernel) rfl <|
  Exists.elim f43.2.2 (fun j29 f42 => have e30 := f42.1; have e30r := f42.2.1
  WP.getR (pc2 := 46) rfl (by decide +kernel) zc_4 zSh_19 (by decide) rfl lf_X4_24 rfl e30 <|
  WP.putR (pc2 := 49) rfl (by decide +kernel) zc_4 zSh_19 (by decide) rfl lf_X4_21 rfl (Or.inr ⟨_, rfl⟩) rfl <|
  WP.aload_n (pc2 := 50) (i := 0) rfl (by decide +kernel) rfl <|
  WP.aload_n (pc2 := 51) (i := 2) rfl (by decide +kernel) rfl <|
  WP.putR (pc2 := 54) rfl (by decide +kernel) zc_4 zSh_19 (by decide) rfl lf_X4_24 rfl (Or.inr ⟨_, rfl⟩) rfl <|
  WP.aload_n (pc2 := 55) (i := 0) rfl (by decide +kernel) rfl <|
  WP.aload_n (pc2 := 56) (i := 0) rfl (by decide +kernel) rfl <|
  WP.getI (pc2 := 59) rfl (by decide +kernel) zc_4 zSh_19 (by decide) rfl lf_X4_57 rfl rfl <|
  WP.iload_n (pc2 := 60) (i := 1) rfl (by decide +kernel) rfl <|
  WP.iadd (pc2 := 61) rfl (by decide +kernel) f42.2.2.1 <|
  WP.iconst (pc2 := 62) (x := 1) rfl (by decide +kernel) (by decide) <|
  WP.iadd (pc2 := 63) rfl (by decide +kernel) f42.2.2.2.1 <|
  WP.callV (y := mX4_spread) (index := 114) (pc2 := 66) (y' := mX4_markHeld) (vs := [.inl (((hi 19 0 10) + a1) + 1)]) rfl (by decide +kernel) okX4_markHeld ⟨by decide, by decide⟩ ⟨lm_X4_114, ivX4_markHeld⟩ zSh_19 zc_4 (Nat.le_of_ble_eq_true rfl) ⟨rfl, rfl⟩ rfl (WP.c1v f42.2.2.2.2 (fun hi31 f41 =>
  WP.aload_n (pc2 := 67) (i := 0) rfl (by decide +kernel) rfl <|
  WP.iload_n (pc2 := 68) (i := 1) rfl (by decide +kernel) rfl <|
  WP.callV (y := mX4_spread) (index := 117) (pc2 := 71) (y' := mX4_dropEntered) (vs := [.inl a1]) rfl (by decide +kernel) okX4_dropEntered ⟨by decide, by decide⟩ ⟨lm_X4_117, ivX4_dropEntered⟩ zSh_19 zc_4 (Nat.le_of_ble_eq_true rfl) ⟨rfl, rfl⟩ rfl (WP.c1v f41 (fun hi32 f40 =>
  WP.aload_n (pc2 := 72) (i := 0) rfl (by decide +kernel) rfl <|
  WP.iload_n (pc2 := 73) (i := 1) rfl (by decide +kernel) rfl <|
  WP.callV (y := mX4_spread) (index := 120) (pc2 := 76) (y' := mX4_spreadStep) (vs := [.inl a1]) rfl (by decide +kernel) okX4_spreadStep ⟨by decide, by decide⟩ ⟨lm_X4_120, ivX4_spreadStep⟩ zSh_19 zc_4 (Nat.le_of_ble_eq_true rfl) ⟨rfl, rfl⟩ rfl (WP.c1v f40 (fun hi33 f39 =>
  WP.aload_n (pc2 := 77) (i := 0) rfl (by decide +kernel) rfl <|
  WP.iload_n (pc2 := 78) (i := 1) rfl (by decide +kernel) rfl <|
  WP.iconst (pc2 := 79) (x := 1) rfl (by decide +kernel) (by decide) <|
  WP.iadd (pc2 := 80) rfl (by decide +kernel) f39.1 <|
  WP.iconst (pc2 := 81) (x := 2) rfl (by decide +kernel) (by decide) <|
  WP.aload_n (pc2 := 82) (i := 0) rfl (by decide +kernel) rfl <|
  WP.getI (pc2 := 85) rfl (by decide +kernel) zc_4 zSh_19 (by decide) rfl lf_X4_70 rfl rfl <|
  WP.callV (y := mX4_spread) (index := 123) (pc2 := 88) (y' := mX4_isReached) (vs := [.inl (a1 + 1), .inl 2, .inl (hi33 19 0 13)]) rfl (by decide +kernel) okX4_isReached ⟨by decide, by decide⟩ ⟨lm_X4_123, ivX4_isReached⟩ zSh_19 zc_4 (Nat.le_of_ble_eq_true rfl) ⟨rfl, rfl⟩ rfl (WP.c0i f39.2 (fun x34 _ f38 =>
  WP.if_eq (pc2 := 91) (off := 7) (tgt := 95) rfl (by decide +kernel) (by decide) (fun h35 => have f36 := f38.1 h35
  WP.iinc (pc2 := 98) (i := 1) (d := 1) rfl (by decide +kernel) rfl f36.1 <|
  WP.goto (off := -69) (tgt := 29) (by decide +kernel) (by decide) <|
  f36.2) (fun h35 => have f37 := f38.2 h35
  WP.iload_n (pc2 := 92) (i := 1) rfl (by decide +kernel) rfl <|
  WP.iconst (pc2 := 93) (x := 1) rfl (by decide +kernel) (by decide) <|
  WP.iadd (pc2 := 94) rfl (by decide +kernel) f37.1 <|
  WP.iret (by decide +kernel) rfl (fun hx => ⟨_, rfl, hx, trivial, f37.2⟩)))))))))))))
set_option maxRecDepth 100000 in
set_option maxHeartbeats 4000000 in
theorem GX4_markHeld {hi : zI} {hr : zR} {P : zI → Prop} (l1 : Int) 
    (F : ∃ j1 : Int, hr 19 0 4 = some (23, j1) ∧ (0 ≤ j1 ∧ j1 < 2) ∧ (W1v mJ7_fill_d0a16 [.inr (some (23, j1)), .lo 0] hi hr (fun (hi3 : zI) => WP mX4_markHeld 10 [some (.inr (some (19, 0))), some (.inl l1), some (.inl 0)] [] hi3 hr (zQ1v hr P)))) :
    W1v mX4_markHeld [.inr (some (19, 0)), .inl l1] hi hr P :=
  WPm.of rfl (show WP mX4_markHeld 0 [some (.inr (some (19, 0))), some (.inl l1), none] [] hi hr (zQ1v hr P) from
  WP.aload_n (pc2 := 1) (i := 0) rfl (by decide +kernel) rfl <|
  Exists.elim F (fun j1 f5 => have e2 := f5.1; have e2r := f5.2.1
  WP.getR (pc2 := 4) rfl (by decide +kernel) zc_4 zSh_19 (by decide) rfl lf_X4_24 rfl e2 <|
  WP.lconst (pc2 := 5) (x := 0) (i := 0) rfl rfl (by decide +kernel) <|
  WP.callS (y := mX4_markHeld) (index := 94) (pc2 := 8) (y' := mJ7_fill_d0a16) (vs := [.inr (some (23, j1)), .lo 0]) rfl (by decide +kernel) okJ7_fill_d0a16 ⟨by decide, by decide⟩ ⟨lm_X4_94, ivJ7_fill_d0a16⟩ (Nat.le_of_ble_eq_true rfl) ⟨rfl, rfl⟩ rfl (WP.c1v f5.2.2 (fun hi3 f4 =>
  WP.iconst (pc2 := 9) (x := 0) rfl (by decide +kernel) (by decide) <|
  WP.istore_n (pc2 := 10) (i := 2) rfl (by decide +kernel) (by decide) <|
  f4))))

set_option maxRecDepth 100000 in
set_option maxHeartbeats 4000000 in
theorem GX4_markHeld_10 {hi : zI} {hr : zR} {P : zI → Prop} (hR : RSc hr) (l1 : Int) (a2 : Int) 
    (F : ∃ j6 : Int, hr 19 0 5 = some (30, j6) ∧ (0 ≤ j6 ∧ j6 < 2) ∧ ((hi 30 j6 8 ≤ a2 → P hi) ∧ (a2 < hi 30 j6 8 → ((hr 19 0 6 = some (18, 0)) ∧ ((6 ≤ a2 → P hi) ∧ (a2 < 6 → ((a2 = hi 19 0 9 → ((zInR (a2 + 1)) ∧ (WP mX4_markHeld 10 [some (.inr (some (19, 0))), some (.inl l1), some (.inl (a2 + 1))] [] hi hr (zQ1v hr P)))) ∧ (a2 ≠ hi 19 0 9 → (∃ j9 : Int, hr 19 0 4 = some (23, j9) ∧ (0 ≤ j9 ∧ j9 < 2) ∧ ((0 ≤ a2 ∧ a2 < 6) ∧ (W0i mX6_cellAt [.inr (some (25, a2)), .inl l1] hi hr (fun (x12 : Int) => W1v mX4_markAllStages [.inr (some (19, 0)), .inr (some (23, j9)), .inl x12] hi hr (fun (hi13 : zI) => (zInR (a2 + 1)) ∧ (WP mX4_markHeld 10 [some (.inr (some (19, 0))), some (.inl l1), some (.inl (a2 + 1))] [] hi13 hr (zQ1v hr P))))))))))))))) :
    WP mX4_markHeld 10 [some (.inr (some (19, 0))), some (.inl l1), some (.inl a2)] [] hi hr (zQ1v hr P) :=
  WP.iload_n (pc2 := 11) (i := 2) rfl (by decide +kernel) rfl <|
  WP.aload_n (pc2 := 12) (i := 0) rfl (by decide +kernel) rfl <|
  Exists.elim F (fun j6 f27 => have e7 := f27.1; have e7r := f27.2.1
  WP.getR (pc2 := 15) rfl (by decide +kernel) zc_4 zSh_19 (by decide) rfl lf_X4_34 rfl e7 <|
  WP.getI (pc2 := 18) rfl (by decide +kernel) zc_10 zSh_30 (by decide) rfl lf_X4_127 rfl rfl <|
  WP.icmp_ge (pc2 := 21) (off := 47) (tgt := 65) rfl (by decide +kernel) (by decide) (fun h24 => have f25 := f27.2.2.1 h24
  WP.vret (by decide +kernel) rfl ⟨rfl, rfl, f25⟩) (fun h24 => have f26 := f27.2.2.2 h24
  WP.iload_n (pc2 := 22) (i := 2) rfl (by decide +kernel) rfl <|
  WP.aload_n (pc2 := 23) (i := 0) rfl (by decide +kernel) rfl <|
  have e8 := f26.1
  WP.getR (pc2 := 26) rfl (by decide +kernel) zc_4 zSh_19 (by decide) rfl lf_X4_38 rfl e8 <|
  WP.alen (pc2 := 27) rfl (by decide +kernel) zSh_18 (by decide) (by decide) rfl <|
  WP.icmp_ge (pc2 := 30) (off := 38) (tgt := 65) rfl (by decide +kernel) (by decide) (fun h20 => have f21 := f26.2.1 h20
  WP.vret (by decide +kernel) rfl ⟨rfl, rfl, f21⟩) (fun h20 => have f22 := f26.2.2 h20
  WP.iload_n (pc2 := 31) (i := 2) rfl (by decide +kernel) rfl <|
  WP.aload_n (pc2 := 32) (i := 0) rfl (by decide +kernel) rfl <|
  WP.getI (pc2 := 35) rfl (by decide +kernel) zc_4 zSh_19 (by decide) rfl lf_X4_54 rfl rfl <|
  WP.icmp_eq (pc2 := 38) (off := 24) (tgt := 59) rfl (by decide +kernel) (by decide) (fun h17 => have f18 := f22.1 h17
  WP.iinc (pc2 := 62) (i := 2) (d := 1) rfl (by decide +kernel) rfl f18.1 <|
  WP.goto (off := -52) (tgt := 10) (by decide +kernel) (by decide) <|
  f18.2) (fun h17 => have f19 := f22.2 h17
  WP.aload_n (pc2 := 39) (i := 0) rfl (by decide +kernel) rfl <|
  WP.aload_n (pc2 := 40) (i := 0) rfl (by decide +kernel) rfl <|
  Exists.elim f19 (fun j9 f16 => have e10 := f16.1; have e10r := f16.2.1
  WP.getR (pc2 := 43) rfl (by decide +kernel) zc_4 zSh_19 (by decide) rfl lf_X4_24 rfl e10 <|
  WP.aload_n (pc2 := 44) (i := 0) rfl (by decide +kernel) rfl <|
  WP.getR (pc2 := 47) rfl (by decide +kernel) zc_4 zSh_19 (by decide) rfl lf_X4_38 rfl e8 <|
  WP.iload_n (pc2 := 48) (i := 2) rfl (by decide +kernel) rfl <|
  WP.aaload (pc2 := 49) rfl (by decide +kernel) zSh_18 (by decide) rfl f16.2.2.1 (rs_18_e hR a2 f16.2.2.1) <|
  WP.getR (pc2 := 52) rfl (by decide +kernel) zc_0 zSh_24 (by decide) rfl lf_X4_84 rfl (rs_24_0 hR a2 (f16.2.2.1)) <|
  WP.iload_n (pc2 := 53) (i := 1) rfl (by decide +kernel) rfl <|
  WP.callV (y := mX4_markHeld) (index := 130) (pc2 := 56) (y' := mX6_cellAt) (vs := [.inl l1]) rfl (by decide +kernel) okX6_cellAt ⟨by decide, by decide⟩ ⟨lm_X4_130, ivX6_cellAt⟩ zSh_25 zc_6 (Nat.le_of_ble_eq_true rfl) ⟨rfl, rfl⟩ rfl (WP.c0i f16.2.2.2 (fun x12 _ f15 =>
  WP.callV (y := mX4_markHeld) (index := 103) (pc2 := 59) (y' := mX4_markAllStages) (vs := [.inr (some (23, j9)), .inl x12]) rfl (by decide +kernel) okX4_markAllStages ⟨by decide, by decide⟩ ⟨lm_X4_103, ivX4_markAllStages⟩ zSh_19 zc_4 (Nat.le_of_ble_eq_true rfl) ⟨rfl, rfl⟩ rfl (WP.c1v f15 (fun hi13 f14 =>
  WP.iinc (pc2 := 62) (i := 2) (d := 1) rfl (by decide +kernel) rfl f14.1 <|
  WP.goto (off := -52) (tgt := 10) (by decide +kernel) (by decide) <|
  f14.2)))))))))
set_option maxRecDepth 100000 in
set_option maxHeartbeats 4000000 in
theorem GX4_dropEntered {hi : zI} {hr : zR} {P : zI → Prop} (l1 : Int) 
    (F : (zInR (l1 * 16)) ∧ (WP mX4_dropEntered 7 [some (.inr (some (19, 0))), some (.inl l1), some (.inl (l1 * 16)), some (.inl 0)] [] hi hr (zQ1v hr P))) :
    W1v mX4_dropEntered [.inr (some (19, 0)), .inl l1] hi hr P :=
  WPm.of rfl (show WP mX4_dropEntered 0 [some (.inr (some (19, 0))), some (.inl l1), none, none] [] hi hr (zQ1v hr P) from
  WP.iload_n (pc2 := 1) (i := 1) rfl (by decide +kernel) rfl <|
  WP.bipush (pc2 := 3) (x := 16) rfl (by decide +kernel) ⟨by decide +kernel, by decide⟩ <|
  WP.imul (pc2 := 4) rfl (by decide +kernel) F.1 <|
  WP.istore_n (pc2 := 5) (i := 2) rfl (by decide +kernel) (by decide) <|
  WP.iconst (pc2 := 6) (x := 0) rfl (by decide +kernel) (by decide) <|
  WP.istore_n (pc2 := 7) (i := 3) rfl (by decide +kernel) (by decide) <|
  F.2)

set_option maxRecDepth 100000 in
set_option maxHeartbeats 4000000 in
theorem GX4_dropEntered_7 {hi : zI} {hr : zR} {P : zI → Prop} (hR : RSc hr) (l1 : Int) (a2 : Int) (a3 : Int) 
    (F : (hi 19 0 8 ≤ a3 → P hi) ∧ (a3 < hi 19 0 8 → ((zInR (a2 + a3)) ∧ ((0 ≤ a2 + a3 ∧ a2 + a3 < 4816) ∧ (∃ j1 : Int, hr 19 0 4 = some (23, j1) ∧ (0 ≤ j1 ∧ j1 < 2) ∧ ((0 ≤ a3 ∧ a3 < 16) ∧ ((0 ≤ a2 + a3 ∧ a2 + a3 < 4816) ∧ ((zInR (a3 + 1)) ∧ (WP mX4_dropEntered 7 [some (.inr (some (19, 0))), some (.inl l1), some (.inl a2), some (.inl (a3 + 1))] [] (zup hi 20 0 (a2 + a3) (zland (hi 20 0 (a2 + a3)) (zlxor (hi 23 j1 a3) (-1)))) hr (zQ1v hr P)))))))))) :
    WP mX4_dropEntered 7 [some (.inr (some (19, 0))), some (.inl l1), some (.inl a2), some (.inl a3)] [] hi hr (zQ1v hr P) :=
  WP.iload_n (pc2 := 8) (i := 3) rfl (by decide +kernel) rfl <|
  WP.aload_n (pc2 := 9) (i := 0) rfl (by decide +kernel) rfl <|
  WP.getI (pc2 := 12) rfl (by decide +kernel) zc_4 zSh_19 (by decide) rfl lf_X4_51 rfl rfl <|
  WP.icmp_ge (pc2 := 15) (off := 30) (tgt := 42) rfl (by decide +kernel) (by decide) (fun h4 => have f5 := F.1 h4
  WP.vret (by decide +kernel) rfl ⟨rfl, rfl, f5⟩) (fun h4 => have f6 := F.2 h4
  WP.aload_n (pc2 := 16) (i := 0) rfl (by decide +kernel) rfl <|
  WP.getR (pc2 := 19) rfl (by decide +kernel) zc_4 zSh_19 (by decide) rfl lf_X4_9 rfl (rs_19_0 hR) <|
  WP.iload_n (pc2 := 20) (i := 2) rfl (by decide +kernel) rfl <|
  WP.iload_n (pc2 := 21) (i := 3) rfl (by decide +kernel) rfl <|
  WP.iadd (pc2 := 22) rfl (by decide +kernel) f6.1 <|
  WP.dup2 (pc2 := 23) rfl (by decide +kernel) <|
  WP.laload (pc2 := 24) rfl (by decide +kernel) zSh_20 rfl f6.2.1 rfl <|
  WP.aload_n (pc2 := 25) (i := 0) rfl (by decide +kernel) rfl <|
  Exists.elim f6.2.2 (fun j1 f3 => have e2 := f3.1; have e2r := f3.2.1
  WP.getR (pc2 := 28) rfl (by decide +kernel) zc_4 zSh_19 (by decide) rfl lf_X4_24 rfl e2 <|
  WP.iload_n (pc2 := 29) (i := 3) rfl (by decide +kernel) rfl <|
  WP.laload (pc2 := 30) rfl (by decide +kernel) zSh_23 rfl f3.2.2.1 rfl <|
  WP.ldc2 (pc2 := 33) rfl lq_X4_135 (by decide +kernel) <|
  WP.lxor (pc2 := 34) rfl (by decide +kernel) <|
  WP.land (pc2 := 35) rfl (by decide +kernel) <|
  WP.lastore (pc2 := 36) rfl (by decide +kernel) zSh_20 rfl f3.2.2.2.1 <|
  WP.iinc (pc2 := 39) (i := 3) (d := 1) rfl (by decide +kernel) rfl f3.2.2.2.2.1 <|
  WP.goto (off := -32) (tgt := 7) (by decide +kernel) (by decide) <|
  f3.2.2.2.2.2))
set_option maxRecDepth 100000 in
set_option maxHeartbeats 4000000 in
theorem GX4_spreadStep {hi : zI} {hr : zR} {P : zI → Prop} (l1 : Int) 
    (F : (zInR (l1 * 16)) ∧ ((zInR ((l1 * 16) + 16)) ∧ (WP mX4_spreadStep 13 [some (.inr (some (19, 0))), some (.inl l1), some (.inl (l1 * 16)), some (.inl ((l1 * 16) + 16)), some (.inl 0), none, none, none, none, none, none, none, none] [] hi hr (zQ1v hr P)))) :
    W1v mX4_spreadStep [.inr (some (19, 0)), .inl l1] hi hr P :=
  WPm.of rfl (show WP mX4_spreadStep 0 [some (.inr (some (19, 0))), some (.inl l1), none, none, none, none, none, none, none, none, none, none, none] [] hi hr (zQ1v hr P) from
  WP.iload_n (pc2 := 1) (i := 1) rfl (by decide +kernel) rfl <|
  WP.bipush (pc2 := 3) (x := 16) rfl (by decide +kernel) ⟨by decide +kernel, by decide⟩ <|
  WP.imul (pc2 := 4) rfl (by decide +kernel) F.1 <|
  WP.istore_n (pc2 := 5) (i := 2) rfl (by decide +kernel) (by decide) <|
  WP.iload_n (pc2 := 6) (i := 2) rfl (by decide +kernel) rfl <|
  WP.bipush (pc2 := 8) (x := 16) rfl (by decide +kernel) ⟨by decide +kernel, by decide⟩ <|
  WP.iadd (pc2 := 9) rfl (by decide +kernel) F.2.1 <|
  WP.istore_n (pc2 := 10) (i := 3) rfl (by decide +kernel) (by decide) <|
  WP.iconst (pc2 := 11) (x := 0) rfl (by decide +kernel) (by decide) <|
  WP.istore (pc2 := 13) (i := 4) rfl (by decide +kernel) (by decide) <|
  F.2.2)

set_option maxRecDepth 100000 in
set_option maxHeartbeats 4000000 in
theorem GX4_spreadStep_13 {hi : zI} {hr : zR} {P : zI → Prop} (hR : RSc hr) (l1 : Int) (a2 : Int) (a3 : Int) (a4 : Int) (u5 : Option zV) (u7 : Option zV) (u9 : Option zV) (u11 : Option zV) 
    (F : (hi 19 0 8 ≤ a4 → P hi) ∧ (a4 < hi 19 0 8 → ((zInR (a2 + a4)) ∧ ((0 ≤ a2 + a4 ∧ a2 + a4 < 4816) ∧ ((0 ≤ a4 ∧ a4 < 16) ∧ ((0 ≤ a4 ∧ a4 < 16) ∧ ((0 ≤ a4 ∧ a4 < 16) ∧ (∃ j12 : Int, hr 19 0 3 = some (23, j12) ∧ (0 ≤ j12 ∧ j12 < 2) ∧ ((0 ≤ a4 ∧ a4 < 16) ∧ (∃ j14 : Int, hr 19 0 4 = some (23, j14) ∧ (0 ≤ j14 ∧ j14 < 2) ∧ ((0 ≤ a4 ∧ a4 < 16) ∧ ((zInR (a3 + a4)) ∧ (W0l mX4_beside [.inr (some (19, 0)), .inl a2, .inl a4] hi hr (fun (x16 : Int) => (0 ≤ a3 + a4 ∧ a3 + a4 < 4816) ∧ ((zInR (a4 + 1)) ∧ (WP mX4_spreadStep 13 [some (.inr (some (19, 0))), some (.inl l1), some (.inl a2), some (.inl a3), some (.inl (a4 + 1)), some (.lo (hi 20 0 (a2 + a4))), none, some (.lo (zland (hi 20 0 (a2 + a4)) (zlxor (hi 22 0 a4) (-1)))), none, some (.lo (zlshl (zland (hi 20 0 (a2 + a4)) (hi 22 0 a4)) 20)), none, some (.lo (zland (zland (hi 21 0 a4) (zlxor (hi 23 j12 a4) (-1))) (zlxor (hi 23 j14 a4) (-1)))), none] [] (zup hi 20 0 (a3 + a4) (zland (zland (zland (hi 21 0 a4) (zlxor (hi 23 j12 a4) (-1))) (zlxor (hi 23 j14 a4) (-1))) (zlor (zlor (zland (hi 20 0 (a2 + a4)) (zlxor (hi 22 0 a4) (-1))) (zlshl (zland (hi 20 0 (a2 + a4)) (hi 22 0 a4)) 20)) x16))) hr (zQ1v hr P))))))))))))))))) :
    WP mX4_spreadStep 13 [some (.inr (some (19, 0))), some (.inl l1), some (.inl a2), some (.inl a3), some (.inl a4), u5, none, u7, none, u9, none, u11, none] [] hi hr (zQ1v hr P) :=
  WP.iload (pc2 := 15) (i := 4) rfl (by decide +kernel) rfl <|
  WP.aload_n (pc2 := 16) (i := 0) rfl (by decide +kernel) rfl <|
  WP.getI (pc2 := 19) rfl (by decide +kernel) zc_4 zSh_19 (by decide) rfl lf_X4_51 rfl rfl <|
  WP.icmp_ge (pc2 := 22) (off := 109) (tgt := 128) rfl (by decide +kernel) (by decide) (fun h20 => have f21 := F.1 h20
  WP.vret (by decide +kernel) rfl ⟨rfl, rfl, f21⟩) (fun h20 => have f22 := F.2 h20
  WP.aload_n (pc2 := 23) (i := 0) rfl (by decide +kernel) rfl <|
  WP.getR (pc2 := 26) rfl (by decide +kernel) zc_4 zSh_19 (by decide) rfl lf_X4_9 rfl (rs_19_0 hR) <|
  WP.iload_n (pc2 := 27) (i := 2) rfl (by decide +kernel) rfl <|
  WP.iload (pc2 := 29) (i := 4) rfl (by decide +kernel) rfl <|
  WP.iadd (pc2 := 30) rfl (by decide +kernel) f22.1 <|
  WP.laload (pc2 := 31) rfl (by decide +kernel) zSh_20 rfl f22.2.1 rfl <|
  WP.lstore (pc2 := 33) (i := 5) rfl (by decide +kernel) (by decide) <|
  WP.lload (pc2 := 35) (i := 5) rfl (by decide +kernel) rfl rfl <|
  WP.aload_n (pc2 := 36) (i := 0) rfl (by decide +kernel) rfl <|
  WP.getR (pc2 := 39) rfl (by decide +kernel) zc_4 zSh_19 (by decide) rfl lf_X4_18 rfl (rs_19_2 hR) <|
  WP.iload (pc2 := 41) (i := 4) rfl (by decide +kernel) rfl <|
  WP.laload (pc2 := 42) rfl (by decide +kernel) zSh_22 rfl f22.2.2.1 rfl <|
  WP.ldc2 (pc2 := 45) rfl lq_X4_135 (by decide +kernel) <|
  WP.lxor (pc2 := 46) rfl (by decide +kernel) <|
  WP.land (pc2 := 47) rfl (by decide +kernel) <|
  WP.lstore (pc2 := 49) (i := 7) rfl (by decide +kernel) (by decide) <|
  WP.lload (pc2 := 51) (i := 5) rfl (by decide +kernel) rfl rfl <|
  WP.aload_n (pc2 := 52) (i := 0) rfl (by decide +kernel) rfl <|
  WP.getR (pc2 := 55) rfl (by decide +kernel) zc_4 zSh_19 (by decide) rfl lf_X4_18 rfl (rs_19_2 hR) <|
  WP.iload (pc2 := 57) (i := 4) rfl (by decide +kernel) rfl <|
  WP.laload (pc2 := 58) rfl (by decide +kernel) zSh_22 rfl f22.2.2.2.1 rfl <|
  WP.land (pc2 := 59) rfl (by decide +kernel) <|
  WP.bipush (pc2 := 61) (x := 20) rfl (by decide +kernel) ⟨by decide +kernel, by decide⟩ <|
  WP.lshl (pc2 := 62) rfl (by decide +kernel) <|
  WP.lstore (pc2 := 64) (i := 9) rfl (by decide +kernel) (by decide) <|
  WP.aload_n (pc2 := 65) (i := 0) rfl (by decide +kernel) rfl <|
  WP.getR (pc2 := 68) rfl (by decide +kernel) zc_4 zSh_19 (by decide) rfl lf_X4_15 rfl (rs_19_1 hR) <|
  WP.iload (pc2 := 70) (i := 4) rfl (by decide +kernel) rfl <|
  WP.laload (pc2 := 71) rfl (by decide +kernel) zSh_21 rfl f22.2.2.2.2.1 rfl <|
  WP.aload_n (pc2 := 72) (i := 0) rfl (by decide +kernel) rfl <|
  Exists.elim f22.2.2.2.2.2 (fun j12 f19 => have e13 := f19.1; have e13r := f19.2.1
  WP.getR (pc2 := 75) rfl (by decide +kernel) zc_4 zSh_19 (by decide) rfl lf_X4_21 rfl e13 <|
  WP.iload (pc2 := 77) (i := 4) rfl (by decide +kernel) rfl <|
  WP.laload (pc2 := 78) rfl (by decide +kernel) zSh_23 rfl f19.2.2.1 rfl <|
  WP.ldc2 (pc2 := 81) rfl lq_X4_135 (by decide +kernel) <|
  WP.lxor (pc2 := 82) rfl (by decide +kernel) <|
  WP.land (pc2 := 83) rfl (by decide +kernel) <|
  WP.aload_n (pc2 := 84) (i := 0) rfl (by decide +kernel) rfl <|
  Exists.elim f19.2.2.2 (fun j14 f18 => have e15 := f18.1; have e15r := f18.2.1
  WP.getR (pc2 := 87) rfl (by decide +kernel) zc_4 zSh_19 (by decide) rfl lf_X4_24 rfl e15 <|
  WP.iload (pc2 := 89) (i := 4) rfl (by decide +kernel) rfl <|
  WP.laload (pc2 := 90) rfl (by decide +kernel) zSh_23 rfl f18.2.2.1 rfl <|
  WP.ldc2 (pc2 := 93) rfl lq_X4_135 (by decide +kernel) <|
  WP.lxor (pc2 := 94) rfl (by decide +kernel) <|
  WP.land (pc2 := 95) rfl (by decide +kernel) <|
  WP.lstore (pc2 := 97) (i := 11) rfl (by decide +kernel) (by decide) <|
  WP.aload_n (pc2 := 98) (i := 0) rfl (by decide +kernel) rfl <|
  WP.getR (pc2 := 101) rfl (by decide +kernel) zc_4 zSh_19 (by decide) rfl lf_X4_9 rfl (rs_19_0 hR) <|
  WP.iload_n (pc2 := 102) (i := 3) rfl (by decide +kernel) rfl <|
  WP.iload (pc2 := 104) (i := 4) rfl (by decide +kernel) rfl <|
  WP.iadd (pc2 := 105) rfl (by decide +kernel) f18.2.2.2.1 <|
  WP.lload (pc2 := 107) (i := 11) rfl (by decide +kernel) rfl rfl <|
  WP.lload (pc2 := 109) (i := 7) rfl (by decide +kernel) rfl rfl <|
  WP.lload (pc2 := 111) (i := 9) rfl (by decide +kernel) rfl rfl <|
  WP.lor (pc2 := 112) rfl (by decide +kernel) <|
  WP.aload_n (pc2 := 113) (i := 0) rfl (by decide +kernel) rfl <|
  WP.iload_n (pc2 := 114) (i := 2) rfl (by decide +kernel) rfl <|
  WP.iload (pc2 := 116) (i := 4) rfl (by decide +kernel) rfl <|
  WP.callV (y := mX4_spreadStep) (index := 137) (pc2 := 119) (y' := mX4_beside) (vs := [.inl a2, .inl a4]) rfl (by decide +kernel) okX4_beside ⟨by decide, by decide⟩ ⟨lm_X4_137, ivX4_beside⟩ zSh_19 zc_4 (Nat.le_of_ble_eq_true rfl) ⟨rfl, rfl⟩ rfl (WP.c0l f18.2.2.2.2 (fun x16 f17 =>
  WP.lor (pc2 := 120) rfl (by decide +kernel) <|
  WP.land (pc2 := 121) rfl (by decide +kernel) <|
  WP.lastore (pc2 := 122) rfl (by decide +kernel) zSh_20 rfl f17.1 <|
  WP.iinc (pc2 := 125) (i := 4) (d := 1) rfl (by decide +kernel) rfl f17.2.1 <|
  WP.goto (off := -112) (tgt := 13) (by decide +kernel) (by decide) <|
  f17.2.2)))))
set_option maxRecDepth 100000 in
set_option maxHeartbeats 4000000 in
theorem GX4_keepWhatLeadsHome {hi : zI} {hr : zR} {P : zI → Prop} (hR : RSc hr) (l1 : Int) 
    (F : W1v mX4_clearStep [.inr (some (19, 0)), .inl l1] hi hr (fun (hi1 : zI) => W1v mX4_mark [.inr (some (19, 0)), .inr (some (20, 0)), .inl l1, .inl 2, .inl (hi1 19 0 13)] hi1 hr (fun (hi2 : zI) => (zInR (l1 - 1)) ∧ (WP mX4_keepWhatLeadsHome 23 [some (.inr (some (19, 0))), some (.inl l1), some (.inl (l1 - 1))] [] hi2 hr (zQ1v hr P))))) :
    W1v mX4_keepWhatLeadsHome [.inr (some (19, 0)), .inl l1] hi hr P :=
  WPm.of rfl (show WP mX4_keepWhatLeadsHome 0 [some (.inr (some (19, 0))), some (.inl l1), none] [] hi hr (zQ1v hr P) from
  WP.aload_n (pc2 := 1) (i := 0) rfl (by decide +kernel) rfl <|
  WP.iload_n (pc2 := 2) (i := 1) rfl (by decide +kernel) rfl <|
  WP.callV (y := mX4_keepWhatLeadsHome) (index := 111) (pc2 := 5) (y' := mX4_clearStep) (vs := [.inl l1]) rfl (by decide +kernel) okX4_clearStep ⟨by decide, by decide⟩ ⟨lm_X4_111, ivX4_clearStep⟩ zSh_19 zc_4 (Nat.le_of_ble_eq_true rfl) ⟨rfl, rfl⟩ rfl (WP.c1v F (fun hi1 f4 =>
  WP.aload_n (pc2 := 6) (i := 0) rfl (by decide +kernel) rfl <|
  WP.aload_n (pc2 := 7) (i := 0) rfl (by decide +kernel) rfl <|
  WP.getR (pc2 := 10) rfl (by decide +kernel) zc_4 zSh_19 (by decide) rfl lf_X4_9 rfl (rs_19_0 hR) <|
  WP.iload_n (pc2 := 11) (i := 1) rfl (by decide +kernel) rfl <|
  WP.iconst (pc2 := 12) (x := 2) rfl (by decide +kernel) (by decide) <|
  WP.aload_n (pc2 := 13) (i := 0) rfl (by decide +kernel) rfl <|
  WP.getI (pc2 := 16) rfl (by decide +kernel) zc_4 zSh_19 (by decide) rfl lf_X4_70 rfl rfl <|
  WP.callV (y := mX4_keepWhatLeadsHome) (index := 107) (pc2 := 19) (y' := mX4_mark) (vs := [.inr (some (20, 0)), .inl l1, .inl 2, .inl (hi1 19 0 13)]) rfl (by decide +kernel) okX4_mark ⟨by decide, by decide⟩ ⟨lm_X4_107, ivX4_mark⟩ zSh_19 zc_4 (Nat.le_of_ble_eq_true rfl) ⟨rfl, rfl⟩ rfl (WP.c1v f4 (fun hi2 f3 =>
  WP.iload_n (pc2 := 20) (i := 1) rfl (by decide +kernel) rfl <|
  WP.iconst (pc2 := 21) (x := 1) rfl (by decide +kernel) (by decide) <|
  WP.isub (pc2 := 22) rfl (by decide +kernel) f3.1 <|
  WP.istore_n (pc2 := 23) (i := 2) rfl (by decide +kernel) (by decide) <|
  f3.2)))))

set_option maxRecDepth 100000 in
set_option maxHeartbeats 4000000 in
theorem GX4_keepWhatLeadsHome_23 {hi : zI} {hr : zR} {P : zI → Prop} (l1 : Int) (a2 : Int) 
    (F : (a2 < 0 → P hi) ∧ (0 ≤ a2 → (W1v mX4_keepStep [.inr (some (19, 0)), .inl a2] hi hr (fun (hi5 : zI) => (zInR (a2 + (-1))) ∧ (WP mX4_keepWhatLeadsHome 23 [some (.inr (some (19, 0))), some (.inl l1), some (.inl (a2 + (-1)))] [] hi5 hr (zQ1v hr P)))))) :
    WP mX4_keepWhatLeadsHome 23 [some (.inr (some (19, 0))), some (.inl l1), some (.inl a2)] [] hi hr (zQ1v hr P) :=
  WP.iload_n (pc2 := 24) (i := 2) rfl (by decide +kernel) rfl <|
  WP.if_lt (pc2 := 27) (off := 14) (tgt := 38) rfl (by decide +kernel) (by decide) (fun h7 => have f8 := F.1 h7
  WP.vret (by decide +kernel) rfl ⟨rfl, rfl, f8⟩) (fun h7 => have f9 := F.2 h7
  WP.aload_n (pc2 := 28) (i := 0) rfl (by decide +kernel) rfl <|
  WP.iload_n (pc2 := 29) (i := 2) rfl (by decide +kernel) rfl <|
  WP.callV (y := mX4_keepWhatLeadsHome) (index := 141) (pc2 := 32) (y' := mX4_keepStep) (vs := [.inl a2]) rfl (by decide +kernel) okX4_keepStep ⟨by decide, by decide⟩ ⟨lm_X4_141, ivX4_keepStep⟩ zSh_19 zc_4 (Nat.le_of_ble_eq_true rfl) ⟨rfl, rfl⟩ rfl (WP.c1v f9 (fun hi5 f6 =>
  WP.iinc (pc2 := 35) (i := 2) (d := -1) rfl (by decide +kernel) rfl f6.1 <|
  WP.goto (off := -12) (tgt := 23) (by decide +kernel) (by decide) <|
  f6.2)))
set_option maxRecDepth 100000 in
set_option maxHeartbeats 4000000 in
theorem GX4_keepStep {hi : zI} {hr : zR} {P : zI → Prop} (l1 : Int) 
    (F : (zInR (l1 * 16)) ∧ ((zInR ((l1 * 16) + 16)) ∧ (WP mX4_keepStep 13 [some (.inr (some (19, 0))), some (.inl l1), some (.inl (l1 * 16)), some (.inl ((l1 * 16) + 16)), some (.inl 0), none, none, none, none, none, none] [] hi hr (zQ1v hr P)))) :
    W1v mX4_keepStep [.inr (some (19, 0)), .inl l1] hi hr P :=
  WPm.of rfl (show WP mX4_keepStep 0 [some (.inr (some (19, 0))), some (.inl l1), none, none, none, none, none, none, none, none, none] [] hi hr (zQ1v hr P) from
  WP.iload_n (pc2 := 1) (i := 1) rfl (by decide +kernel) rfl <|
  WP.bipush (pc2 := 3) (x := 16) rfl (by decide +kernel) ⟨by decide +kernel, by decide⟩ <|
  WP.imul (pc2 := 4) rfl (by decide +kernel) F.1 <|
  WP.istore_n (pc2 := 5) (i := 2) rfl (by decide +kernel) (by decide) <|
  WP.iload_n (pc2 := 6) (i := 2) rfl (by decide +kernel) rfl <|
  WP.bipush (pc2 := 8) (x := 16) rfl (by decide +kernel) ⟨by decide +kernel, by decide⟩ <|
  WP.iadd (pc2 := 9) rfl (by decide +kernel) F.2.1 <|
  WP.istore_n (pc2 := 10) (i := 3) rfl (by decide +kernel) (by decide) <|
  WP.iconst (pc2 := 11) (x := 0) rfl (by decide +kernel) (by decide) <|
  WP.istore (pc2 := 13) (i := 4) rfl (by decide +kernel) (by decide) <|
  F.2.2)

set_option maxRecDepth 100000 in
set_option maxHeartbeats 4000000 in
theorem GX4_keepStep_13 {hi : zI} {hr : zR} {P : zI → Prop} (hR : RSc hr) (l1 : Int) (a2 : Int) (a3 : Int) (a4 : Int) (u5 : Option zV) (u7 : Option zV) (u9 : Option zV) 
    (F : (hi 19 0 8 ≤ a4 → P hi) ∧ (a4 < hi 19 0 8 → ((zInR (a3 + a4)) ∧ ((0 ≤ a3 + a4 ∧ a3 + a4 < 4816) ∧ ((0 ≤ a4 ∧ a4 < 16) ∧ ((0 ≤ a4 ∧ a4 < 16) ∧ ((zInR (a2 + a4)) ∧ ((0 ≤ a2 + a4 ∧ a2 + a4 < 4816) ∧ (W0l mX4_beside [.inr (some (19, 0)), .inl a3, .inl a4] hi hr (fun (x6 : Int) => (0 ≤ a2 + a4 ∧ a2 + a4 < 4816) ∧ ((zInR (a4 + 1)) ∧ (WP mX4_keepStep 13 [some (.inr (some (19, 0))), some (.inl l1), some (.inl a2), some (.inl a3), some (.inl (a4 + 1)), some (.lo (hi 20 0 (a3 + a4))), none, some (.lo (zland (hi 20 0 (a3 + a4)) (zlxor (hi 22 0 a4) (-1)))), none, some (.lo (zland (zlushr (hi 20 0 (a3 + a4)) 20) (hi 22 0 a4))), none] [] (zup hi 20 0 (a2 + a4) (zland (hi 20 0 (a2 + a4)) (zlor (zlor (zland (hi 20 0 (a3 + a4)) (zlxor (hi 22 0 a4) (-1))) (zland (zlushr (hi 20 0 (a3 + a4)) 20) (hi 22 0 a4))) x6))) hr (zQ1v hr P))))))))))))) :
    WP mX4_keepStep 13 [some (.inr (some (19, 0))), some (.inl l1), some (.inl a2), some (.inl a3), some (.inl a4), u5, none, u7, none, u9, none] [] hi hr (zQ1v hr P) :=
  WP.iload (pc2 := 15) (i := 4) rfl (by decide +kernel) rfl <|
  WP.aload_n (pc2 := 16) (i := 0) rfl (by decide +kernel) rfl <|
  WP.getI (pc2 := 19) rfl (by decide +kernel) zc_4 zSh_19 (by decide) rfl lf_X4_51 rfl rfl <|
  WP.icmp_ge (pc2 := 22) (off := 76) (tgt := 95) rfl (by decide +kernel) (by decide) (fun h8 => have f9 := F.1 h8
  WP.vret (by decide +kernel) rfl ⟨rfl, rfl, f9⟩) (fun h8 => have f10 := F.2 h8
  WP.aload_n (pc2 := 23) (i := 0) rfl (by decide +kernel) rfl <|
  WP.getR (pc2 := 26) rfl (by decide +kernel) zc_4 zSh_19 (by decide) rfl lf_X4_9 rfl (rs_19_0 hR) <|
  WP.iload_n (pc2 := 27) (i := 3) rfl (by decide +kernel) rfl <|
  WP.iload (pc2 := 29) (i := 4) rfl (by decide +kernel) rfl <|
  WP.iadd (pc2 := 30) rfl (by decide +kernel) f10.1 <|
  WP.laload (pc2 := 31) rfl (by decide +kernel) zSh_20 rfl f10.2.1 rfl <|
  WP.lstore (pc2 := 33) (i := 5) rfl (by decide +kernel) (by decide) <|
  WP.lload (pc2 := 35) (i := 5) rfl (by decide +kernel) rfl rfl <|
  WP.aload_n (pc2 := 36) (i := 0) rfl (by decide +kernel) rfl <|
  WP.getR (pc2 := 39) rfl (by decide +kernel) zc_4 zSh_19 (by decide) rfl lf_X4_18 rfl (rs_19_2 hR) <|
  WP.iload (pc2 := 41) (i := 4) rfl (by decide +kernel) rfl <|
  WP.laload (pc2 := 42) rfl (by decide +kernel) zSh_22 rfl f10.2.2.1 rfl <|
  WP.ldc2 (pc2 := 45) rfl lq_X4_135 (by decide +kernel) <|
  WP.lxor (pc2 := 46) rfl (by decide +kernel) <|
  WP.land (pc2 := 47) rfl (by decide +kernel) <|
  WP.lstore (pc2 := 49) (i := 7) rfl (by decide +kernel) (by decide) <|
  WP.lload (pc2 := 51) (i := 5) rfl (by decide +kernel) rfl rfl <|
  WP.bipush (pc2 := 53) (x := 20) rfl (by decide +kernel) ⟨by decide +kernel, by decide⟩ <|
  WP.lushr (pc2 := 54) rfl (by decide +kernel) <|
  WP.aload_n (pc2 := 55) (i := 0) rfl (by decide +kernel) rfl <|
  WP.getR (pc2 := 58) rfl (by decide +kernel) zc_4 zSh_19 (by decide) rfl lf_X4_18 rfl (rs_19_2 hR) <|
  WP.iload (pc2 := 60) (i := 4) rfl (by decide +kernel) rfl <|
  WP.laload (pc2 := 61) rfl (by decide +kernel) zSh_22 rfl f10.2.2.2.1 rfl <|
  WP.land (pc2 := 62) rfl (by decide +kernel) <|
  WP.lstore (pc2 := 64) (i := 9) rfl (by decide +kernel) (by decide) <|
  WP.aload_n (pc2 := 65) (i := 0) rfl (by decide +kernel) rfl <|
  WP.getR (pc2 := 68) rfl (by decide +kernel) zc_4 zSh_19 (by decide) rfl lf_X4_9 rfl (rs_19_0 hR) <|
  WP.iload_n (pc2 := 69) (i := 2) rfl (by decide +kernel) rfl <|
  WP.iload (pc2 := 71) (i := 4) rfl (by decide +kernel) rfl <|
  WP.iadd (pc2 := 72) rfl (by decide +kernel) f10.2.2.2.2.1 <|
  WP.dup2 (pc2 := 73) rfl (by decide +kernel) <|
  WP.laload (pc2 := 74) rfl (by decide +kernel) zSh_20 rfl f10.2.2.2.2.2.1 rfl <|
  WP.lload (pc2 := 76) (i := 7) rfl (by decide +kernel) rfl rfl <|
  WP.lload (pc2 := 78) (i := 9) rfl (by decide +kernel) rfl rfl <|
  WP.lor (pc2 := 79) rfl (by decide +kernel) <|
  WP.aload_n (pc2 := 80) (i := 0) rfl (by decide +kernel) rfl <|
  WP.iload_n (pc2 := 81) (i := 3) rfl (by decide +kernel) rfl <|
  WP.iload (pc2 := 83) (i := 4) rfl (by decide +kernel) rfl <|
  WP.callV (y := mX4_keepStep) (index := 137) (pc2 := 86) (y' := mX4_beside) (vs := [.inl a3, .inl a4]) rfl (by decide +kernel) okX4_beside ⟨by decide, by decide⟩ ⟨lm_X4_137, ivX4_beside⟩ zSh_19 zc_4 (Nat.le_of_ble_eq_true rfl) ⟨rfl, rfl⟩ rfl (WP.c0l f10.2.2.2.2.2.2 (fun x6 f7 =>
  WP.lor (pc2 := 87) rfl (by decide +kernel) <|
  WP.land (pc2 := 88) rfl (by decide +kernel) <|
  WP.lastore (pc2 := 89) rfl (by decide +kernel) zSh_20 rfl f7.1 <|
  WP.iinc (pc2 := 92) (i := 4) (d := 1) rfl (by decide +kernel) rfl f7.2.1 <|
  WP.goto (off := -79) (tgt := 13) (by decide +kernel) (by decide) <|
  f7.2.2)))
set_option maxRecDepth 100000 in
set_option maxHeartbeats 4000000 in
theorem GX4_followFirst {hi : zI} {hr : zR} {P : zI → Prop} (l1 : Int) (j2 : Int) (hj2 : 0 ≤ j2 ∧ j2 < 6)
    (F : W1v mX6_begin [.inr (some (25, j2)), .inl (hi 19 0 13), .inl (hi 19 0 10)] hi hr (fun (hi1 : zI) => WP mX4_followFirst 23 [some (.inr (some (19, 0))), some (.inl l1), some (.inr (some (25, j2))), some (.inl (hi1 19 0 13)), some (.inl 0), some (.inl 1), none, none] [] hi1 hr (zQ1v hr P))) :
    W1v mX4_followFirst [.inr (some (19, 0)), .inl l1, .inr (some (25, j2))] hi hr P :=
  WPm.of rfl (show WP mX4_followFirst 0 [some (.inr (some (19, 0))), some (.inl l1), some (.inr (some (25, j2))), none, none, none, none, none] [] hi hr (zQ1v hr P) from
  WP.aload_n (pc2 := 1) (i := 2) rfl (by decide +kernel) rfl <|
  WP.aload_n (pc2 := 2) (i := 0) rfl (by decide +kernel) rfl <|
  WP.getI (pc2 := 5) rfl (by decide +kernel) zc_4 zSh_19 (by decide) rfl lf_X4_70 rfl rfl <|
  WP.aload_n (pc2 := 6) (i := 0) rfl (by decide +kernel) rfl <|
  WP.getI (pc2 := 9) rfl (by decide +kernel) zc_4 zSh_19 (by decide) rfl lf_X4_57 rfl rfl <|
  WP.callV (y := mX4_followFirst) (index := 144) (pc2 := 12) (y' := mX6_begin) (vs := [.inl (hi 19 0 13), .inl (hi 19 0 10)]) rfl (by decide +kernel) okX6_begin ⟨by decide, by decide⟩ ⟨lm_X4_144, ivX6_begin⟩ zSh_25 zc_6 (Nat.le_of_ble_eq_true rfl) ⟨rfl, rfl⟩ rfl (WP.c1v F (fun hi1 f2 =>
  WP.aload_n (pc2 := 13) (i := 0) rfl (by decide +kernel) rfl <|
  WP.getI (pc2 := 16) rfl (by decide +kernel) zc_4 zSh_19 (by decide) rfl lf_X4_70 rfl rfl <|
  WP.istore_n (pc2 := 17) (i := 3) rfl (by decide +kernel) (by decide) <|
  WP.iconst (pc2 := 18) (x := 0) rfl (by decide +kernel) (by decide) <|
  WP.istore (pc2 := 20) (i := 4) rfl (by decide +kernel) (by decide) <|
  WP.iconst (pc2 := 21) (x := 1) rfl (by decide +kernel) (by decide) <|
  WP.istore (pc2 := 23) (i := 5) rfl (by decide +kernel) (by decide) <|
  f2)))

set_option maxRecDepth 100000 in
set_option maxHeartbeats 4000000 in
theorem GX4_followFirst_23 {hi : zI} {hr : zR} {P : zI → Prop} (l1 : Int) (j2 : Int) (a3 : Int) (a4 : Int) (a5 : Int) (u6 : Option zV) (u7 : Option zV) (hj2 : 0 ≤ j2 ∧ j2 < 6)
    (F : (l1 < a5 → P hi) ∧ (a5 ≤ l1 → ((a4 ≠ 0 → ((a4 ≠ 1 → (W0i mX4_isReached [.inr (some (19, 0)), .inl a5, .inl a4, .inl a3] hi hr (fun (x101 : Int) => (x101 ≠ 0 → (W1v mX6_addWait [.inr (some (25, j2)), .inl a3] hi hr (fun (hi102 : zI) => (zInR (a5 + 1)) ∧ (WP mX4_followFirst 23 [some (.inr (some (19, 0))), some (.inl l1), some (.inr (some (25, j2))), some (.inl a3), some (.inl a4), some (.inl (a5 + 1)), some (.inl 0), some (.inl a4)] [] hi102 hr (zQ1v hr P))))) ∧ (x101 = 0 → (W0i mX4_firstWayOn [.inr (some (19, 0)), .inl a5, .inl a4, .inl a3] hi hr (fun (x104 : Int) => W1v mX6_addMove [.inr (some (25, j2)), .inl x104] hi hr (fun (hi105 : zI) => (zInR (a5 + 1)) ∧ (WP mX4_followFirst 23 [some (.inr (some (19, 0))), some (.inl l1), some (.inr (some (25, j2))), some (.inl x104), some (.inl a4), some (.inl (a5 + 1)), some (.inl 0), some (.inl a4)] [] hi105 hr (zQ1v hr P))))))))) ∧ (a4 = 1 → ((a3 ≠ hi 19 0 12 → (W0i mX4_isReached [.inr (some (19, 0)), .inl a5, .inl a4, .inl a3] hi hr (fun (x112 : Int) => (x112 ≠ 0 → (W1v mX6_addWait [.inr (some (25, j2)), .inl a3] hi hr (fun (hi113 : zI) => (zInR (a5 + 1)) ∧ (WP mX4_followFirst 23 [some (.inr (some (19, 0))), some (.inl l1), some (.inr (some (25, j2))), some (.inl a3), some (.inl a4), some (.inl (a5 + 1)), some (.inl 0), some (.inl a4)] [] hi113 hr (zQ1v hr P))))) ∧ (x112 = 0 → (W0i mX4_firstWayOn [.inr (some (19, 0)), .inl a5, .inl a4, .inl a3] hi hr (fun (x115 : Int) => W1v mX6_addMove [.inr (some (25, j2)), .inl x115] hi hr (fun (hi116 : zI) => (zInR (a5 + 1)) ∧ (WP mX4_followFirst 23 [some (.inr (some (19, 0))), some (.inl l1), some (.inr (some (25, j2))), some (.inl x115), some (.inl a4), some (.inl (a5 + 1)), some (.inl 0), some (.inl a4)] [] hi116 hr (zQ1v hr P))))))))) ∧ (a3 = hi 19 0 12 → ((zInR (a4 + 1)) ∧ (W0i mX4_isReached [.inr (some (19, 0)), .inl a5, .inl (a4 + 1), .inl a3] hi hr (fun (x123 : Int) => (x123 ≠ 0 → (W1v mX6_addTurn [.inr (some (25, j2)), .inl a3, .inl (a4 + 1)] hi hr (fun (hi124 : zI) => (zInR (a5 + 1)) ∧ (WP mX4_followFirst 23 [some (.inr (some (19, 0))), some (.inl l1), some (.inr (some (25, j2))), some (.inl a3), some (.inl (a4 + 1)), some (.inl (a5 + 1)), some (.inl 1), some (.inl (a4 + 1))] [] hi124 hr (zQ1v hr P))))) ∧ (x123 = 0 → (W0i mX4_firstWayOn [.inr (some (19, 0)), .inl a5, .inl a4, .inl a3] hi hr (fun (x126 : Int) => W1v mX6_addMove [.inr (some (25, j2)), .inl x126] hi hr (fun (hi127 : zI) => (zInR (a5 + 1)) ∧ (WP mX4_followFirst 23 [some (.inr (some (19, 0))), some (.inl l1), some (.inr (some (25, j2))), some (.inl x126), some (.inl a4), some (.inl (a5 + 1)), some (.inl 1), some (.inl (a4 + 1))] [] hi127 hr (zQ1v hr P)))))))))))))) ∧ (a4 = 0 → ((a3 = hi 19 0 11 → ((zInR (a4 + 1)) ∧ (W0i mX4_isReached [.inr (some (19, 0)), .inl a5, .inl (a4 + 1), .inl a3] hi hr (fun (x140 : Int) => (x140 ≠ 0 → (W1v mX6_addTurn [.inr (some (25, j2)), .inl a3, .inl (a4 + 1)] hi hr (fun (hi141 : zI) => (zInR (a5 + 1)) ∧ (WP mX4_followFirst 23 [some (.inr (some (19, 0))), some (.inl l1), some (.inr (some (25, j2))), some (.inl a3), some (.inl (a4 + 1)), some (.inl (a5 + 1)), some (.inl 1), some (.inl (a4 + 1))] [] hi141 hr (zQ1v hr P))))) ∧ (x140 = 0 → (W0i mX4_firstWayOn [.inr (some (19, 0)), .inl a5, .inl a4, .inl a3] hi hr (fun (x143 : Int) => W1v mX6_addMove [.inr (some (25, j2)), .inl x143] hi hr (fun (hi144 : zI) => (zInR (a5 + 1)) ∧ (WP mX4_followFirst 23 [some (.inr (some (19, 0))), some (.inl l1), some (.inr (some (25, j2))), some (.inl x143), some (.inl a4), some (.inl (a5 + 1)), some (.inl 1), some (.inl (a4 + 1))] [] hi144 hr (zQ1v hr P)))))))))) ∧ (a3 ≠ hi 19 0 11 → ((a4 ≠ 1 → (W0i mX4_isReached [.inr (some (19, 0)), .inl a5, .inl a4, .inl a3] hi hr (fun (x151 : Int) => (x151 ≠ 0 → (W1v mX6_addWait [.inr (some (25, j2)), .inl a3] hi hr (fun (hi152 : zI) => (zInR (a5 + 1)) ∧ (WP mX4_followFirst 23 [some (.inr (some (19, 0))), some (.inl l1), some (.inr (some (25, j2))), some (.inl a3), some (.inl a4), some (.inl (a5 + 1)), some (.inl 0), some (.inl a4)] [] hi152 hr (zQ1v hr P))))) ∧ (x151 = 0 → (W0i mX4_firstWayOn [.inr (some (19, 0)), .inl a5, .inl a4, .inl a3] hi hr (fun (x154 : Int) => W1v mX6_addMove [.inr (some (25, j2)), .inl x154] hi hr (fun (hi155 : zI) => (zInR (a5 + 1)) ∧ (WP mX4_followFirst 23 [some (.inr (some (19, 0))), some (.inl l1), some (.inr (some (25, j2))), some (.inl x154), some (.inl a4), some (.inl (a5 + 1)), some (.inl 0), some (.inl a4)] [] hi155 hr (zQ1v hr P))))))))) ∧ (a4 = 1 → ((a3 ≠ hi 19 0 12 → (W0i mX4_isReached [.inr (some (19, 0)), .inl a5, .inl a4, .inl a3] hi hr (fun (x162 : Int) => (x162 ≠ 0 → (W1v mX6_addWait [.inr (some (25, j2)), .inl a3] hi hr (fun (hi163 : zI) => (zInR (a5 + 1)) ∧ (WP mX4_followFirst 23 [some (.inr (some (19, 0))), some (.inl l1), some (.inr (some (25, j2))), some (.inl a3), some (.inl a4), some (.inl (a5 + 1)), some (.inl 0), some (.inl a4)] [] hi163 hr (zQ1v hr P))))) ∧ (x162 = 0 → (W0i mX4_firstWayOn [.inr (some (19, 0)), .inl a5, .inl a4, .inl a3] hi hr (fun (x165 : Int) => W1v mX6_addMove [.inr (some (25, j2)), .inl x165] hi hr (fun (hi166 : zI) => (zInR (a5 + 1)) ∧ (WP mX4_followFirst 23 [some (.inr (some (19, 0))), some (.inl l1), some (.inr (some (25, j2))), some (.inl x165), some (.inl a4), some (.inl (a5 + 1)), some (.inl 0), some (.inl a4)] [] hi166 hr (zQ1v hr P))))))))) ∧ (a3 = hi 19 0 12 → ((zInR (a4 + 1)) ∧ (W0i mX4_isReached [.inr (some (19, 0)), .inl a5, .inl (a4 + 1), .inl a3] hi hr (fun (x173 : Int) => (x173 ≠ 0 → (W1v mX6_addTurn [.inr (some (25, j2)), .inl a3, .inl (a4 + 1)] hi hr (fun (hi174 : zI) => (zInR (a5 + 1)) ∧ (WP mX4_followFirst 23 [some (.inr (some (19, 0))), some (.inl l1), some (.inr (some (25, j2))), some (.inl a3), some (.inl (a4 + 1)), some (.inl (a5 + 1)), some (.inl 1), some (.inl (a4 + 1))] [] hi174 hr (zQ1v hr P))))) ∧ (x173 = 0 → (W0i mX4_firstWayOn [.inr (some (19, 0)), .inl a5, .inl a4, .inl a3] hi hr (fun (x176 : Int) => W1v mX6_addMove [.inr (some (25, j2)), .inl x176] hi hr (fun (hi177 : zI) => (zInR (a5 + 1)) ∧ (WP mX4_followFirst 23 [some (.inr (some (19, 0))), some (.inl l1), some (.inr (some (25, j2))), some (.inl x176), some (.inl a4), some (.inl (a5 + 1)), some (.inl 1), some (.inl (a4 + 1))] [] hi177 hr (zQ1v hr P))))))))))))))))))) :
    WP mX4_followFirst 23 [some (.inr (some (19, 0))), some (.inl l1), some (.inr (some (25, j2))), some (.inl a3), some (.inl a4), some (.inl a5), u6, u7] [] hi hr (zQ1v hr P) :=
  WP.iload (pc2 := 25) (i := 5) rfl (by decide +kernel) rfl <|
  WP.iload_n (pc2 := 26) (i := 1) rfl (by decide +kernel) rfl <|
  WP.icmp_gt (pc2 := 29) (off := 113) (tgt := 139) rfl (by decide +kernel) (by decide) (fun h196 => have f197 := F.1 h196
  WP.vret (by decide +kernel) rfl ⟨rfl, rfl, f197⟩) (fun h196 => have f198 := F.2 h196
  WP.iload (pc2 := 31) (i := 4) rfl (by decide +kernel) rfl <|
  WP.if_ne (pc2 := 34) (off := 11) (tgt := 42) rfl (by decide +kernel) (by decide) (fun h193 => have f194 := f198.1 h193
  WP.iload (pc2 := 44) (i := 4) rfl (by decide +kernel) rfl <|
  WP.iconst (pc2 := 45) (x := 1) rfl (by decide +kernel) (by decide) <|
  WP.icmp_ne (pc2 := 48) (off := 15) (tgt := 60) rfl (by decide +kernel) (by decide) (fun h137 => have f138 := f194.1 h137
  WP.iconst (pc2 := 61) (x := 0) rfl (by decide +kernel) (by decide) <|
  WP.istore (pc2 := 63) (i := 6) rfl (by decide +kernel) (by decide) <|
  WP.iload (pc2 := 65) (i := 6) rfl (by decide +kernel) rfl <|
  WP.if_eq (pc2 := 68) (off := 10) (tgt := 75) rfl (by decide +kernel) (by decide) (fun _ =>
  WP.iload (pc2 := 77) (i := 4) rfl (by decide +kernel) rfl <|
  WP.istore (pc2 := 79) (i := 7) rfl (by decide +kernel) (by decide) <|
  WP.aload_n (pc2 := 80) (i := 0) rfl (by decide +kernel) rfl <|
  WP.iload (pc2 := 82) (i := 5) rfl (by decide +kernel) rfl <|
  WP.iload (pc2 := 84) (i := 7) rfl (by decide +kernel) rfl <|
  WP.iload_n (pc2 := 85) (i := 3) rfl (by decide +kernel) rfl <|
  WP.callV (y := mX4_followFirst) (index := 123) (pc2 := 88) (y' := mX4_isReached) (vs := [.inl a5, .inl a4, .inl a3]) rfl (by decide +kernel) okX4_isReached ⟨by decide, by decide⟩ ⟨lm_X4_123, ivX4_isReached⟩ zSh_19 zc_4 (Nat.le_of_ble_eq_true rfl) ⟨rfl, rfl⟩ rfl (WP.c0i f138 (fun x101 _ f111 =>
  WP.if_ne (pc2 := 91) (off := 21) (tgt := 109) rfl (by decide +kernel) (by decide) (fun h108 => have f109 := f111.1 h108
  WP.iload (pc2 := 111) (i := 6) rfl (by decide +kernel) rfl <|
  WP.if_eq (pc2 := 114) (off := 17) (tgt := 128) rfl (by decide +kernel) (by decide) (fun _ =>
  WP.aload_n (pc2 := 129) (i := 2) rfl (by decide +kernel) rfl <|
  WP.iload_n (pc2 := 130) (i := 3) rfl (by decide +kernel) rfl <|
  WP.callV (y := mX4_followFirst) (index := 158) (pc2 := 133) (y' := mX6_addWait) (vs := [.inl a3]) rfl (by decide +kernel) okX6_addWait ⟨by decide, by decide⟩ ⟨lm_X4_158, ivX6_addWait⟩ zSh_25 zc_6 (Nat.le_of_ble_eq_true rfl) ⟨rfl, rfl⟩ rfl (WP.c1v f109 (fun hi102 f103 =>
  WP.iinc (pc2 := 136) (i := 5) (d := 1) rfl (by decide +kernel) rfl f103.1 <|
  WP.goto (off := -113) (tgt := 23) (by decide +kernel) (by decide) <|
  f103.2))) (fun h => absurd h (by decide))) (fun h108 => have f110 := f111.2 h108
  WP.aload_n (pc2 := 92) (i := 0) rfl (by decide +kernel) rfl <|
  WP.iload (pc2 := 94) (i := 5) rfl (by decide +kernel) rfl <|
  WP.iload (pc2 := 96) (i := 4) rfl (by decide +kernel) rfl <|
  WP.iload_n (pc2 := 97) (i := 3) rfl (by decide +kernel) rfl <|
  WP.callV (y := mX4_followFirst) (index := 148) (pc2 := 100) (y' := mX4_firstWayOn) (vs := [.inl a5, .inl a4, .inl a3]) rfl (by decide +kernel) okX4_firstWayOn ⟨by decide, by decide⟩ ⟨lm_X4_148, ivX4_firstWayOn⟩ zSh_19 zc_4 (Nat.le_of_ble_eq_true rfl) ⟨rfl, rfl⟩ rfl (WP.c0i f110 (fun x104 _ f107 =>
  WP.istore_n (pc2 := 101) (i := 3) rfl (by decide +kernel) (by decide) <|
  WP.aload_n (pc2 := 102) (i := 2) rfl (by decide +kernel) rfl <|
  WP.iload_n (pc2 := 103) (i := 3) rfl (by decide +kernel) rfl <|
  WP.callV (y := mX4_followFirst) (index := 152) (pc2 := 106) (y' := mX6_addMove) (vs := [.inl x104]) rfl (by decide +kernel) okX6_addMove ⟨by decide, by decide⟩ ⟨lm_X4_152, ivX6_addMove⟩ zSh_25 zc_6 (Nat.le_of_ble_eq_true rfl) ⟨rfl, rfl⟩ rfl (WP.c1v f107 (fun hi105 f106 =>
  WP.goto (off := 27) (tgt := 133) (by decide +kernel) (by decide) <|
  WP.iinc (pc2 := 136) (i := 5) (d := 1) rfl (by decide +kernel) rfl f106.1 <|
  WP.goto (off := -113) (tgt := 23) (by decide +kernel) (by decide) <|
  f106.2)))))))) (fun h => absurd h (by decide))) (fun h137 => have f139 := f194.2 h137
  WP.iload_n (pc2 := 49) (i := 3) rfl (by decide +kernel) rfl <|
  WP.aload_n (pc2 := 50) (i := 0) rfl (by decide +kernel) rfl <|
  WP.getI (pc2 := 53) rfl (by decide +kernel) zc_4 zSh_19 (by decide) rfl lf_X4_63 rfl rfl <|
  WP.icmp_ne (pc2 := 56) (off := 7) (tgt := 60) rfl (by decide +kernel) (by decide) (fun h134 => have f135 := f139.1 h134
  WP.iconst (pc2 := 61) (x := 0) rfl (by decide +kernel) (by decide) <|
  WP.istore (pc2 := 63) (i := 6) rfl (by decide +kernel) (by decide) <|
  WP.iload (pc2 := 65) (i := 6) rfl (by decide +kernel) rfl <|
  WP.if_eq (pc2 := 68) (off := 10) (tgt := 75) rfl (by decide +kernel) (by decide) (fun _ =>
  WP.iload (pc2 := 77) (i := 4) rfl (by decide +kernel) rfl <|
  WP.istore (pc2 := 79) (i := 7) rfl (by decide +kernel) (by decide) <|
  WP.aload_n (pc2 := 80) (i := 0) rfl (by decide +kernel) rfl <|
  WP.iload (pc2 := 82) (i := 5) rfl (by decide +kernel) rfl <|
  WP.iload (pc2 := 84) (i := 7) rfl (by decide +kernel) rfl <|
  WP.iload_n (pc2 := 85) (i := 3) rfl (by decide +kernel) rfl <|
  WP.callV (y := mX4_followFirst) (index := 123) (pc2 := 88) (y' := mX4_isReached) (vs := [.inl a5, .inl a4, .inl a3]) rfl (by decide +kernel) okX4_isReached ⟨by decide, by decide⟩ ⟨lm_X4_123, ivX4_isReached⟩ zSh_19 zc_4 (Nat.le_of_ble_eq_true rfl) ⟨rfl, rfl⟩ rfl (WP.c0i f135 (fun x112 _ f122 =>
  WP.if_ne (pc2 := 91) (off := 21) (tgt := 109) rfl (by decide +kernel) (by decide) (fun h119 => have f120 := f122.1 h119
  WP.iload (pc2 := 111) (i := 6) rfl (by decide +kernel) rfl <|
  WP.if_eq (pc2 := 114) (off := 17) (tgt := 128) rfl (by decide +kernel) (by decide) (fun _ =>
  WP.aload_n (pc2 := 129) (i := 2) rfl (by decide +kernel) rfl <|
  WP.iload_n (pc2 := 130) (i := 3) rfl (by decide +kernel) rfl <|
  WP.callV (y := mX4_followFirst) (index := 158) (pc2 := 133) (y' := mX6_addWait) (vs := [.inl a3]) rfl (by decide +kernel) okX6_addWait ⟨by decide, by decide⟩ ⟨lm_X4_158, ivX6_addWait⟩ zSh_25 zc_6 (Nat.le_of_ble_eq_true rfl) ⟨rfl, rfl⟩ rfl (WP.c1v f120 (fun hi113 f114 =>
  WP.iinc (pc2 := 136) (i := 5) (d := 1) rfl (by decide +kernel) rfl f114.1 <|
  WP.goto (off := -113) (tgt := 23) (by decide +kernel) (by decide) <|
  f114.2))) (fun h => absurd h (by decide))) (fun h119 => have f121 := f122.2 h119
  WP.aload_n (pc2 := 92) (i := 0) rfl (by decide +kernel) rfl <|
  WP.iload (pc2 := 94) (i := 5) rfl (by decide +kernel) rfl <|
  WP.iload (pc2 := 96) (i := 4) rfl (by decide +kernel) rfl <|
  WP.iload_n (pc2 := 97) (i := 3) rfl (by decide +kernel) rfl <|
  WP.callV (y := mX4_followFirst) (index := 148) (pc2 := 100) (y' := mX4_firstWayOn) (vs := [.inl a5, .inl a4, .inl a3]) rfl (by decide +kernel) okX4_firstWayOn ⟨by decide, by decide⟩ ⟨lm_X4_148, ivX4_firstWayOn⟩ zSh_19 zc_4 (Nat.le_of_ble_eq_true rfl) ⟨rfl, rfl⟩ rfl (WP.c0i f121 (fun x115 _ f118 =>
  WP.istore_n (pc2 := 101) (i := 3) rfl (by decide +kernel) (by decide) <|
  WP.aload_n (pc2 := 102) (i := 2) rfl (by decide +kernel) rfl <|
  WP.iload_n (pc2 := 103) (i := 3) rfl (by decide +kernel) rfl <|
  WP.callV (y := mX4_followFirst) (index := 152) (pc2 := 106) (y' := mX6_addMove) (vs := [.inl x115]) rfl (by decide +kernel) okX6_addMove ⟨by decide, by decide⟩ ⟨lm_X4_152, ivX6_addMove⟩ zSh_25 zc_6 (Nat.le_of_ble_eq_true rfl) ⟨rfl, rfl⟩ rfl (WP.c1v f118 (fun hi116 f117 =>
  WP.goto (off := 27) (tgt := 133) (by decide +kernel) (by decide) <|
  WP.iinc (pc2 := 136) (i := 5) (d := 1) rfl (by decide +kernel) rfl f117.1 <|
  WP.goto (off := -113) (tgt := 23) (by decide +kernel) (by decide) <|
  f117.2)))))))) (fun h => absurd h (by decide))) (fun h134 => have f136 := f139.2 h134
  WP.iconst (pc2 := 57) (x := 1) rfl (by decide +kernel) (by decide) <|
  WP.goto (off := 4) (tgt := 61) (by decide +kernel) (by decide) <|
  WP.istore (pc2 := 63) (i := 6) rfl (by decide +kernel) (by decide) <|
  WP.iload (pc2 := 65) (i := 6) rfl (by decide +kernel) rfl <|
  WP.if_eq (pc2 := 68) (off := 10) (tgt := 75) rfl (by decide +kernel) (by decide) (fun h => absurd h (by decide)) (fun _ =>
  WP.iload (pc2 := 70) (i := 4) rfl (by decide +kernel) rfl <|
  WP.iconst (pc2 := 71) (x := 1) rfl (by decide +kernel) (by decide) <|
  WP.iadd (pc2 := 72) rfl (by decide +kernel) f136.1 <|
  WP.goto (off := 5) (tgt := 77) (by decide +kernel) (by decide) <|
  WP.istore (pc2 := 79) (i := 7) rfl (by decide +kernel) (by decide) <|
  WP.aload_n (pc2 := 80) (i := 0) rfl (by decide +kernel) rfl <|
  WP.iload (pc2 := 82) (i := 5) rfl (by decide +kernel) rfl <|
  WP.iload (pc2 := 84) (i := 7) rfl (by decide +kernel) rfl <|
  WP.iload_n (pc2 := 85) (i := 3) rfl (by decide +kernel) rfl <|
  WP.callV (y := mX4_followFirst) (index := 123) (pc2 := 88) (y' := mX4_isReached) (vs := [.inl a5, .inl (a4 + 1), .inl a3]) rfl (by decide +kernel) okX4_isReached ⟨by decide, by decide⟩ ⟨lm_X4_123, ivX4_isReached⟩ zSh_19 zc_4 (Nat.le_of_ble_eq_true rfl) ⟨rfl, rfl⟩ rfl (WP.c0i f136.2 (fun x123 _ f133 =>
  WP.if_ne (pc2 := 91) (off := 21) (tgt := 109) rfl (by decide +kernel) (by decide) (fun h130 => have f131 := f133.1 h130
  WP.iload (pc2 := 111) (i := 6) rfl (by decide +kernel) rfl <|
  WP.if_eq (pc2 := 114) (off := 17) (tgt := 128) rfl (by decide +kernel) (by decide) (fun h => absurd h (by decide)) (fun _ =>
  WP.iload (pc2 := 116) (i := 7) rfl (by decide +kernel) rfl <|
  WP.istore (pc2 := 118) (i := 4) rfl (by decide +kernel) (by decide) <|
  WP.aload_n (pc2 := 119) (i := 2) rfl (by decide +kernel) rfl <|
  WP.iload_n (pc2 := 120) (i := 3) rfl (by decide +kernel) rfl <|
  WP.iload (pc2 := 122) (i := 4) rfl (by decide +kernel) rfl <|
  WP.callV (y := mX4_followFirst) (index := 155) (pc2 := 125) (y' := mX6_addTurn) (vs := [.inl a3, .inl (a4 + 1)]) rfl (by decide +kernel) okX6_addTurn ⟨by decide, by decide⟩ ⟨lm_X4_155, ivX6_addTurn⟩ zSh_25 zc_6 (Nat.le_of_ble_eq_true rfl) ⟨rfl, rfl⟩ rfl (WP.c1v f131 (fun hi124 f125 =>
  WP.goto (off := 8) (tgt := 133) (by decide +kernel) (by decide) <|
  WP.iinc (pc2 := 136) (i := 5) (d := 1) rfl (by decide +kernel) rfl f125.1 <|
  WP.goto (off := -113) (tgt := 23) (by decide +kernel) (by decide) <|
  f125.2)))) (fun h130 => have f132 := f133.2 h130
  WP.aload_n (pc2 := 92) (i := 0) rfl (by decide +kernel) rfl <|
  WP.iload (pc2 := 94) (i := 5) rfl (by decide +kernel) rfl <|
  WP.iload (pc2 := 96) (i := 4) rfl (by decide +kernel) rfl <|
  WP.iload_n (pc2 := 97) (i := 3) rfl (by decide +kernel) rfl <|
  WP.callV (y := mX4_followFirst) (index := 148) (pc2 := 100) (y' := mX4_firstWayOn) (vs := [.inl a5, .inl a4, .inl a3]) rfl (by decide +kernel) okX4_firstWayOn ⟨by decide, by decide⟩ ⟨lm_X4_148, ivX4_firstWayOn⟩ zSh_19 zc_4 (Nat.le_of_ble_eq_true rfl) ⟨rfl, rfl⟩ rfl (WP.c0i f132 (fun x126 _ f129 =>
  WP.istore_n (pc2 := 101) (i := 3) rfl (by decide +kernel) (by decide) <|
  WP.aload_n (pc2 := 102) (i := 2) rfl (by decide +kernel) rfl <|
  WP.iload_n (pc2 := 103) (i := 3) rfl (by decide +kernel) rfl <|
  WP.callV (y := mX4_followFirst) (index := 152) (pc2 := 106) (y' := mX6_addMove) (vs := [.inl x126]) rfl (by decide +kernel) okX6_addMove ⟨by decide, by decide⟩ ⟨lm_X4_152, ivX6_addMove⟩ zSh_25 zc_6 (Nat.le_of_ble_eq_true rfl) ⟨rfl, rfl⟩ rfl (WP.c1v f129 (fun hi127 f128 =>
  WP.goto (off := 27) (tgt := 133) (by decide +kernel) (by decide) <|
  WP.iinc (pc2 := 136) (i := 5) (d := 1) rfl (by decide +kernel) rfl f128.1 <|
  WP.goto (off := -113) (tgt := 23) (by decide +kernel) (by decide) <|
  f128.2))))))))))) (fun h193 => have f195 := f198.2 h193
  WP.iload_n (pc2 := 35) (i := 3) rfl (by decide +kernel) rfl <|
  WP.aload_n (pc2 := 36) (i := 0) rfl (by decide +kernel) rfl <|
  WP.getI (pc2 := 39) rfl (by decide +kernel) zc_4 zSh_19 (by decide) rfl lf_X4_60 rfl rfl <|
  WP.icmp_eq (pc2 := 42) (off := 17) (tgt := 56) rfl (by decide +kernel) (by decide) (fun h190 => have f191 := f195.1 h190
  WP.iconst (pc2 := 57) (x := 1) rfl (by decide +kernel) (by decide) <|
  WP.goto (off := 4) (tgt := 61) (by decide +kernel) (by decide) <|
  WP.istore (pc2 := 63) (i := 6) rfl (by decide +kernel) (by decide) <|
  WP.iload (pc2 := 65) (i := 6) rfl (by decide +kernel) rfl <|
  WP.if_eq (pc2 := 68) (off := 10) (tgt := 75) rfl (by decide +kernel) (by decide) (fun h => absurd h (by decide)) (fun _ =>
  WP.iload (pc2 := 70) (i := 4) rfl (by decide +kernel) rfl <|
  WP.iconst (pc2 := 71) (x := 1) rfl (by decide +kernel) (by decide) <|
  WP.iadd (pc2 := 72) rfl (by decide +kernel) f191.1 <|
  WP.goto (off := 5) (tgt := 77) (by decide +kernel) (by decide) <|
  WP.istore (pc2 := 79) (i := 7) rfl (by decide +kernel) (by decide) <|
  WP.aload_n (pc2 := 80) (i := 0) rfl (by decide +kernel) rfl <|
  WP.iload (pc2 := 82) (i := 5) rfl (by decide +kernel) rfl <|
  WP.iload (pc2 := 84) (i := 7) rfl (by decide +kernel) rfl <|
  WP.iload_n (pc2 := 85) (i := 3) rfl (by decide +kernel) rfl <|
  WP.callV (y := mX4_followFirst) (index := 123) (pc2 := 88) (y' := mX4_isReached) (vs := [.inl a5, .inl (a4 + 1), .inl a3]) rfl (by decide +kernel) okX4_isReached ⟨by decide, by decide⟩ ⟨lm_X4_123, ivX4_isReached⟩ zSh_19 zc_4 (Nat.le_of_ble_eq_true rfl) ⟨rfl, rfl⟩ rfl (WP.c0i f191.2 (fun x140 _ f150 =>
  WP.if_ne (pc2 := 91) (off := 21) (tgt := 109) rfl (by decide +kernel) (by decide) (fun h147 => have f148 := f150.1 h147
  WP.iload (pc2 := 111) (i := 6) rfl (by decide +kernel) rfl <|
  WP.if_eq (pc2 := 114) (off := 17) (tgt := 128) rfl (by decide +kernel) (by decide) (fun h => absurd h (by decide)) (fun _ =>
  WP.iload (pc2 := 116) (i := 7) rfl (by decide +kernel) rfl <|
  WP.istore (pc2 := 118) (i := 4) rfl (by decide +kernel) (by decide) <|
  WP.aload_n (pc2 := 119) (i := 2) rfl (by decide +kernel) rfl <|
  WP.iload_n (pc2 := 120) (i := 3) rfl (by decide +kernel) rfl <|
  WP.iload (pc2 := 122) (i := 4) rfl (by decide +kernel) rfl <|
  WP.callV (y := mX4_followFirst) (index := 155) (pc2 := 125) (y' := mX6_addTurn) (vs := [.inl a3, .inl (a4 + 1)]) rfl (by decide +kernel) okX6_addTurn ⟨by decide, by decide⟩ ⟨lm_X4_155, ivX6_addTurn⟩ zSh_25 zc_6 (Nat.le_of_ble_eq_true rfl) ⟨rfl, rfl⟩ rfl (WP.c1v f148 (fun hi141 f142 =>
  WP.goto (off := 8) (tgt := 133) (by decide +kernel) (by decide) <|
  WP.iinc (pc2 := 136) (i := 5) (d := 1) rfl (by decide +kernel) rfl f142.1 <|
  WP.goto (off := -113) (tgt := 23) (by decide +kernel) (by decide) <|
  f142.2)))) (fun h147 => have f149 := f150.2 h147
  WP.aload_n (pc2 := 92) (i := 0) rfl (by decide +kernel) rfl <|
  WP.iload (pc2 := 94) (i := 5) rfl (by decide +kernel) rfl <|
  WP.iload (pc2 := 96) (i := 4) rfl (by decide +kernel) rfl <|
  WP.iload_n (pc2 := 97) (i := 3) rfl (by decide +kernel) rfl <|
  WP.callV (y := mX4_followFirst) (index := 148) (pc2 := 100) (y' := mX4_firstWayOn) (vs := [.inl a5, .inl a4, .inl a3]) rfl (by decide +kernel) okX4_firstWayOn ⟨by decide, by decide⟩ ⟨lm_X4_148, ivX4_firstWayOn⟩ zSh_19 zc_4 (Nat.le_of_ble_eq_true rfl) ⟨rfl, rfl⟩ rfl (WP.c0i f149 (fun x143 _ f146 =>
  WP.istore_n (pc2 := 101) (i := 3) rfl (by decide +kernel) (by decide) <|
  WP.aload_n (pc2 := 102) (i := 2) rfl (by decide +kernel) rfl <|
  WP.iload_n (pc2 := 103) (i := 3) rfl (by decide +kernel) rfl <|
  WP.callV (y := mX4_followFirst) (index := 152) (pc2 := 106) (y' := mX6_addMove) (vs := [.inl x143]) rfl (by decide +kernel) okX6_addMove ⟨by decide, by decide⟩ ⟨lm_X4_152, ivX6_addMove⟩ zSh_25 zc_6 (Nat.le_of_ble_eq_true rfl) ⟨rfl, rfl⟩ rfl (WP.c1v f146 (fun hi144 f145 =>
  WP.goto (off := 27) (tgt := 133) (by decide +kernel) (by decide) <|
  WP.iinc (pc2 := 136) (i := 5) (d := 1) rfl (by decide +kernel) rfl f145.1 <|
  WP.goto (off := -113) (tgt := 23) (by decide +kernel) (by decide) <|
  f145.2))))))))) (fun h190 => have f192 := f195.2 h190
  WP.iload (pc2 := 44) (i := 4) rfl (by decide +kernel) rfl <|
  WP.iconst (pc2 := 45) (x := 1) rfl (by decide +kernel) (by decide) <|
  WP.icmp_ne (pc2 := 48) (off := 15) (tgt := 60) rfl (by decide +kernel) (by decide) (fun h187 => have f188 := f192.1 h187
  WP.iconst (pc2 := 61) (x := 0) rfl (by decide +kernel) (by decide) <|
  WP.istore (pc2 := 63) (i := 6) rfl (by decide +kernel) (by decide) <|
  WP.iload (pc2 := 65) (i := 6) rfl (by decide +kernel) rfl <|
  WP.if_eq (pc2 := 68) (off := 10) (tgt := 75) rfl (by decide +kernel) (by decide) (fun _ =>
  WP.iload (pc2 := 77) (i := 4) rfl (by decide +kernel) rfl <|
  WP.istore (pc2 := 79) (i := 7) rfl (by decide +kernel) (by decide) <|
  WP.aload_n (pc2 := 80) (i := 0) rfl (by decide +kernel) rfl <|
  WP.iload (pc2 := 82) (i := 5) rfl (by decide +kernel) rfl <|
  WP.iload (pc2 := 84) (i := 7) rfl (by decide +kernel) rfl <|
  WP.iload_n (pc2 := 85) (i := 3) rfl (by decide +kernel) rfl <|
  WP.callV (y := mX4_followFirst) (index := 123) (pc2 := 88) (y' := mX4_isReached) (vs := [.inl a5, .inl a4, .inl a3]) rfl (by decide +kernel) okX4_isReached ⟨by decide, by decide⟩ ⟨lm_X4_123, ivX4_isReached⟩ zSh_19 zc_4 (Nat.le_of_ble_eq_true rfl) ⟨rfl, rfl⟩ rfl (WP.c0i f188 (fun x151 _ f161 =>
  WP.if_ne (pc2 := 91) (off := 21) (tgt := 109) rfl (by decide +kernel) (by decide) (fun h158 => have f159 := f161.1 h158
  WP.iload (pc2 := 111) (i := 6) rfl (by decide +kernel) rfl <|
  WP.if_eq (pc2 := 114) (off := 17) (tgt := 128) rfl (by decide +kernel) (by decide) (fun _ =>
  WP.aload_n (pc2 := 129) (i := 2) rfl (by decide +kernel) rfl <|
  WP.iload_n (pc2 := 130) (i := 3) rfl (by decide +kernel) rfl <|
  WP.callV (y := mX4_followFirst) (index := 158) (pc2 := 133) (y' := mX6_addWait) (vs := [.inl a3]) rfl (by decide +kernel) okX6_addWait ⟨by decide, by decide⟩ ⟨lm_X4_158, ivX6_addWait⟩ zSh_25 zc_6 (Nat.le_of_ble_eq_true rfl) ⟨rfl, rfl⟩ rfl (WP.c1v f159 (fun hi152 f153 =>
  WP.iinc (pc2 := 136) (i := 5) (d := 1) rfl (by decide +kernel) rfl f153.1 <|
  WP.goto (off := -113) (tgt := 23) (by decide +kernel) (by decide) <|
  f153.2))) (fun h => absurd h (by decide))) (fun h158 => have f160 := f161.2 h158
  WP.aload_n (pc2 := 92) (i := 0) rfl (by decide +kernel) rfl <|
  WP.iload (pc2 := 94) (i := 5) rfl (by decide +kernel) rfl <|
  WP.iload (pc2 := 96) (i := 4) rfl (by decide +kernel) rfl <|
  WP.iload_n (pc2 := 97) (i := 3) rfl (by decide +kernel) rfl <|
  WP.callV (y := mX4_followFirst) (index := 148) (pc2 := 100) (y' := mX4_firstWayOn) (vs := [.inl a5, .inl a4, .inl a3]) rfl (by decide +kernel) okX4_firstWayOn ⟨by decide, by decide⟩ ⟨lm_X4_148, ivX4_firstWayOn⟩ zSh_19 zc_4 (Nat.le_of_ble_eq_true rfl) ⟨rfl, rfl⟩ rfl (WP.c0i f160 (fun x154 _ f157 =>
  WP.istore_n (pc2 := 101) (i := 3) rfl (by decide +kernel) (by decide) <|
  WP.aload_n (pc2 := 102) (i := 2) rfl (by decide +kernel) rfl <|
  WP.iload_n (pc2 := 103) (i := 3) rfl (by decide +kernel) rfl <|
  WP.callV (y := mX4_followFirst) (index := 152) (pc2 := 106) (y' := mX6_addMove) (vs := [.inl x154]) rfl (by decide +kernel) okX6_addMove ⟨by decide, by decide⟩ ⟨lm_X4_152, ivX6_addMove⟩ zSh_25 zc_6 (Nat.le_of_ble_eq_true rfl) ⟨rfl, rfl⟩ rfl (WP.c1v f157 (fun hi155 f156 =>
  WP.goto (off := 27) (tgt := 133) (by decide +kernel) (by decide) <|
  WP.iinc (pc2 := 136) (i := 5) (d := 1) rfl (by decide +kernel) rfl f156.1 <|
  WP.goto (off := -113) (tgt := 23) (by decide +kernel) (by decide) <|
  f156.2)))))))) (fun h => absurd h (by decide))) (fun h187 => have f189 := f192.2 h187
  WP.iload_n (pc2 := 49) (i := 3) rfl (by decide +kernel) rfl <|
  WP.aload_n (pc2 := 50) (i := 0) rfl (by decide +kernel) rfl <|
  WP.getI (pc2 := 53) rfl (by decide +kernel) zc_4 zSh_19 (by decide) rfl lf_X4_63 rfl rfl <|
  WP.icmp_ne (pc2 := 56) (off := 7) (tgt := 60) rfl (by decide +kernel) (by decide) (fun h184 => have f185 := f189.1 h184
  WP.iconst (pc2 := 61) (x := 0) rfl (by decide +kernel) (by decide) <|
  WP.istore (pc2 := 63) (i := 6) rfl (by decide +kernel) (by decide) <|
  WP.iload (pc2 := 65) (i := 6) rfl (by decide +kernel) rfl <|
  WP.if_eq (pc2 := 68) (off := 10) (tgt := 75) rfl (by decide +kernel) (by decide) (fun _ =>
  WP.iload (pc2 := 77) (i := 4) rfl (by decide +kernel) rfl <|
  WP.istore (pc2 := 79) (i := 7) rfl (by decide +kernel) (by decide) <|
  WP.aload_n (pc2 := 80) (i := 0) rfl (by decide +kernel) rfl <|
  WP.iload (pc2 := 82) (i := 5) rfl (by decide +kernel) rfl <|
  WP.iload (pc2 := 84) (i := 7) rfl (by decide +kernel) rfl <|
  WP.iload_n (pc2 := 85) (i := 3) rfl (by decide +kernel) rfl <|
  WP.callV (y := mX4_followFirst) (index := 123) (pc2 := 88) (y' := mX4_isReached) (vs := [.inl a5, .inl a4, .inl a3]) rfl (by decide +kernel) okX4_isReached ⟨by decide, by decide⟩ ⟨lm_X4_123, ivX4_isReached⟩ zSh_19 zc_4 (Nat.le_of_ble_eq_true rfl) ⟨rfl, rfl⟩ rfl (WP.c0i f185 (fun x162 _ f172 =>
  WP.if_ne (pc2 := 91) (off := 21) (tgt := 109) rfl (by decide +kernel) (by decide) (fun h169 => have f170 := f172.1 h169
  WP.iload (pc2 := 111) (i := 6) rfl (by decide +kernel) rfl <|
  WP.if_eq (pc2 := 114) (off := 17) (tgt := 128) rfl (by decide +kernel) (by decide) (fun _ =>
  WP.aload_n (pc2 := 129) (i := 2) rfl (by decide +kernel) rfl <|
  WP.iload_n (pc2 := 130) (i := 3) rfl (by decide +kernel) rfl <|
  WP.callV (y := mX4_followFirst) (index := 158) (pc2 := 133) (y' := mX6_addWait) (vs := [.inl a3]) rfl (by decide +kernel) okX6_addWait ⟨by decide, by decide⟩ ⟨lm_X4_158, ivX6_addWait⟩ zSh_25 zc_6 (Nat.le_of_ble_eq_true rfl) ⟨rfl, rfl⟩ rfl (WP.c1v f170 (fun hi163 f164 =>
  WP.iinc (pc2 := 136) (i := 5) (d := 1) rfl (by decide +kernel) rfl f164.1 <|
  WP.goto (off := -113) (tgt := 23) (by decide +kernel) (by decide) <|
  f164.2))) (fun h => absurd h (by decide))) (fun h169 => have f171 := f172.2 h169
  WP.aload_n (pc2 := 92) (i := 0) rfl (by decide +kernel) rfl <|
  WP.iload (pc2 := 94) (i := 5) rfl (by decide +kernel) rfl <|
  WP.iload (pc2 := 96) (i := 4) rfl (by decide +kernel) rfl <|
  WP.iload_n (pc2 := 97) (i := 3) rfl (by decide +kernel) rfl <|
  WP.callV (y := mX4_followFirst) (index := 148) (pc2 := 100) (y' := mX4_firstWayOn) (vs := [.inl a5, .inl a4, .inl a3]) rfl (by decide +kernel) okX4_firstWayOn ⟨by decide, by decide⟩ ⟨lm_X4_148, ivX4_firstWayOn⟩ zSh_19 zc_4 (Nat.le_of_ble_eq_true rfl) ⟨rfl, rfl⟩ rfl (WP.c0i f171 (fun x165 _ f168 =>
  WP.istore_n (pc2 := 101) (i := 3) rfl (by decide +kernel) (by decide) <|
  WP.aload_n (pc2 := 102) (i := 2) rfl (by decide +kernel) rfl <|
  WP.iload_n (pc2 := 103) (i := 3) rfl (by decide +kernel) rfl <|
  WP.callV (y := mX4_followFirst) (index := 152) (pc2 := 106) (y' := mX6_addMove) (vs := [.inl x165]) rfl (by decide +kernel) okX6_addMove ⟨by decide, by decide⟩ ⟨lm_X4_152, ivX6_addMove⟩ zSh_25 zc_6 (Nat.le_of_ble_eq_true rfl) ⟨rfl, rfl⟩ rfl (WP.c1v f168 (fun hi166 f167 =>
  WP.goto (off := 27) (tgt := 133) (by decide +kernel) (by decide) <|
  WP.iinc (pc2 := 136) (i := 5) (d := 1) rfl (by decide +kernel) rfl f167.1 <|
  WP.goto (off := -113) (tgt := 23) (by decide +kernel) (by decide) <|
  f167.2)))))))) (fun h => absurd h (by decide))) (fun h184 => have f186 := f189.2 h184
  WP.iconst (pc2 := 57) (x := 1) rfl (by decide +kernel) (by decide) <|
  WP.goto (off := 4) (tgt := 61) (by decide +kernel) (by decide) <|
  WP.istore (pc2 := 63) (i := 6) rfl (by decide +kernel) (by decide) <|
  WP.iload (pc2 := 65) (i := 6) rfl (by decide +kernel) rfl <|
  WP.if_eq (pc2 := 68) (off := 10) (tgt := 75) rfl (by decide +kernel) (by decide) (fun h => absurd h (by decide)) (fun _ =>
  WP.iload (pc2 := 70) (i := 4) rfl (by decide +kernel) rfl <|
  WP.iconst (pc2 := 71) (x := 1) rfl (by decide +kernel) (by decide) <|
  WP.iadd (pc2 := 72) rfl (by decide +kernel) f186.1 <|
  WP.goto (off := 5) (tgt := 77) (by decide +kernel) (by decide) <|
  WP.istore (pc2 := 79) (i := 7) rfl (by decide +kernel) (by decide) <|
  WP.aload_n (pc2 := 80) (i := 0) rfl (by decide +kernel) rfl <|
  WP.iload (pc2 := 82) (i := 5) rfl (by decide +kernel) rfl <|
  WP.iload (pc2 := 84) (i := 7) rfl (by decide +kernel) rfl <|
  WP.iload_n (pc2 := 85) (i := 3) rfl (by decide +kernel) rfl <|
  WP.callV (y := mX4_followFirst) (index := 123) (pc2 := 88) (y' := mX4_isReached) (vs := [.inl a5, .inl (a4 + 1), .inl a3]) rfl (by decide +kernel) okX4_isReached ⟨by decide, by decide⟩ ⟨lm_X4_123, ivX4_isReached⟩ zSh_19 zc_4 (Nat.le_of_ble_eq_true rfl) ⟨rfl, rfl⟩ rfl (WP.c0i f186.2 (fun x173 _ f183 =>
  WP.if_ne (pc2 := 91) (off := 21) (tgt := 109) rfl (by decide +kernel) (by decide) (fun h180 => have f181 := f183.1 h180
  WP.iload (pc2 := 111) (i := 6) rfl (by decide +kernel) rfl <|
  WP.if_eq (pc2 := 114) (off := 17) (tgt := 128) rfl (by decide +kernel) (by decide) (fun h => absurd h (by decide)) (fun _ =>
  WP.iload (pc2 := 116) (i := 7) rfl (by decide +kernel) rfl <|
  WP.istore (pc2 := 118) (i := 4) rfl (by decide +kernel) (by decide) <|
  WP.aload_n (pc2 := 119) (i := 2) rfl (by decide +kernel) rfl <|
  WP.iload_n (pc2 := 120) (i := 3) rfl (by decide +kernel) rfl <|
  WP.iload (pc2 := 122) (i := 4) rfl (by decide +kernel) rfl <|
  WP.callV (y := mX4_followFirst) (index := 155) (pc2 := 125) (y' := mX6_addTurn) (vs := [.inl a3, .inl (a4 + 1)]) rfl (by decide +kernel) okX6_addTurn ⟨by decide, by decide⟩ ⟨lm_X4_155, ivX6_addTurn⟩ zSh_25 zc_6 (Nat.le_of_ble_eq_true rfl) ⟨rfl, rfl⟩ rfl (WP.c1v f181 (fun hi174 f175 =>
  WP.goto (off := 8) (tgt := 133) (by decide +kernel) (by decide) <|
  WP.iinc (pc2 := 136) (i := 5) (d := 1) rfl (by decide +kernel) rfl f175.1 <|
  WP.goto (off := -113) (tgt := 23) (by decide +kernel) (by decide) <|
  f175.2)))) (fun h180 => have f182 := f183.2 h180
  WP.aload_n (pc2 := 92) (i := 0) rfl (by decide +kernel) rfl <|
  WP.iload (pc2 := 94) (i := 5) rfl (by decide +kernel) rfl <|
  WP.iload (pc2 := 96) (i := 4) rfl (by decide +kernel) rfl <|
  WP.iload_n (pc2 := 97) (i := 3) rfl (by decide +kernel) rfl <|
  WP.callV (y := mX4_followFirst) (index := 148) (pc2 := 100) (y' := mX4_firstWayOn) (vs := [.inl a5, .inl a4, .inl a3]) rfl (by decide +kernel) okX4_firstWayOn ⟨by decide, by decide⟩ ⟨lm_X4_148, ivX4_firstWayOn⟩ zSh_19 zc_4 (Nat.le_of_ble_eq_true rfl) ⟨rfl, rfl⟩ rfl (WP.c0i f182 (fun x176 _ f179 =>
  WP.istore_n (pc2 := 101) (i := 3) rfl (by decide +kernel) (by decide) <|
  WP.aload_n (pc2 := 102) (i := 2) rfl (by decide +kernel) rfl <|
  WP.iload_n (pc2 := 103) (i := 3) rfl (by decide +kernel) rfl <|
  WP.callV (y := mX4_followFirst) (index := 152) (pc2 := 106) (y' := mX6_addMove) (vs := [.inl x176]) rfl (by decide +kernel) okX6_addMove ⟨by decide, by decide⟩ ⟨lm_X4_152, ivX6_addMove⟩ zSh_25 zc_6 (Nat.le_of_ble_eq_true rfl) ⟨rfl, rfl⟩ rfl (WP.c1v f179 (fun hi177 f178 =>
  WP.goto (off := 27) (tgt := 133) (by decide +kernel) (by decide) <|
  WP.iinc (pc2 := 136) (i := 5) (d := 1) rfl (by decide +kernel) rfl f178.1 <|
  WP.goto (off := -113) (tgt := 23) (by decide +kernel) (by decide) <|
  f178.2)))))))))))))
set_option maxRecDepth 100000 in
set_option maxHeartbeats 4000000 in
theorem GX4_firstWayOn {hi : zI} {hr : zR} {P : Int → Prop} (l1 : Int) (l2 : Int) (l3 : Int) 
    (F : WP mX4_firstWayOn 3 [some (.inr (some (19, 0))), some (.inl l1), some (.inl l2), some (.inl l3), some (.inl 0), none] [] hi hr (zQ0i hi hr P)) :
    W0i mX4_firstWayOn [.inr (some (19, 0)), .inl l1, .inl l2, .inl l3] hi hr P :=
  WPm.of rfl (show WP mX4_firstWayOn 0 [some (.inr (some (19, 0))), some (.inl l1), some (.inl l2), some (.inl l3), none, none] [] hi hr (zQ0i hi hr P) from
  WP.iconst (pc2 := 1) (x := 0) rfl (by decide +kernel) (by decide) <|
  WP.istore (pc2 := 3) (i := 4) rfl (by decide +kernel) (by decide) <|
  F)

set_option maxRecDepth 100000 in
set_option maxHeartbeats 4000000 in
theorem GX4_firstWayOn_3 {hi : zI} {hr : zR} {P : Int → Prop} (l1 : Int) (l2 : Int) (l3 : Int) (a4 : Int) (u5 : Option zV) 
    (F : (4 ≤ a4 → P l3) ∧ (a4 < 4 → (∃ j14 : Int, hr 19 0 5 = some (30, j14) ∧ (0 ≤ j14 ∧ j14 < 2) ∧ (W0i mX10_neighbour [.inr (some (30, j14)), .inl l3, .inl a4] hi hr (fun (x16 : Int) => W0i mX4_isReached [.inr (some (19, 0)), .inl l1, .inl l2, .inl x16] hi hr (fun (x17 : Int) => (x17 = 0 → ((zInR (a4 + 1)) ∧ (WP mX4_firstWayOn 3 [some (.inr (some (19, 0))), some (.inl l1), some (.inl l2), some (.inl l3), some (.inl (a4 + 1)), some (.inl x16)] [] hi hr (zQ0i hi hr P)))) ∧ (x17 ≠ 0 → P x16))))))) :
    WP mX4_firstWayOn 3 [some (.inr (some (19, 0))), some (.inl l1), some (.inl l2), some (.inl l3), some (.inl a4), u5] [] hi hr (zQ0i hi hr P) :=
  WP.iload (pc2 := 5) (i := 4) rfl (by decide +kernel) rfl <|
  WP.iconst (pc2 := 6) (x := 4) rfl (by decide +kernel) (by decide) <|
  WP.icmp_ge (pc2 := 9) (off := 35) (tgt := 41) rfl (by decide +kernel) (by decide) (fun h24 => have f25 := F.1 h24
  WP.iload_n (pc2 := 42) (i := 3) rfl (by decide +kernel) rfl <|
  WP.iret (by decide +kernel) rfl (fun hx => ⟨_, rfl, hx, rfl, rfl, f25⟩)) (fun h24 => have f26 := F.2 h24
  WP.aload_n (pc2 := 10) (i := 0) rfl (by decide +kernel) rfl <|
  Exists.elim f26 (fun j14 f23 => have e15 := f23.1; have e15r := f23.2.1
  WP.getR (pc2 := 13) rfl (by decide +kernel) zc_4 zSh_19 (by decide) rfl lf_X4_34 rfl e15 <|
  WP.iload_n (pc2 := 14) (i := 3) rfl (by decide +kernel) rfl <|
  WP.iload (pc2 := 16) (i := 4) rfl (by decide +kernel) rfl <|
  WP.callV (y := mX4_firstWayOn) (index := 161) (pc2 := 19) (y' := mX10_neighbour) (vs := [.inl l3, .inl a4]) rfl (by decide +kernel) okX10_neighbour ⟨by decide, by decide⟩ ⟨lm_X4_161, ivX10_neighbour⟩ zSh_30 zc_10 (Nat.le_of_ble_eq_true rfl) ⟨rfl, rfl⟩ rfl (WP.c0i f23.2.2 (fun x16 _ f22 =>
  WP.istore (pc2 := 21) (i := 5) rfl (by decide +kernel) (by decide) <|
  WP.aload_n (pc2 := 22) (i := 0) rfl (by decide +kernel) rfl <|
  WP.iload_n (pc2 := 23) (i := 1) rfl (by decide +kernel) rfl <|
  WP.iload_n (pc2 := 24) (i := 2) rfl (by decide +kernel) rfl <|
  WP.iload (pc2 := 26) (i := 5) rfl (by decide +kernel) rfl <|
  WP.callV (y := mX4_firstWayOn) (index := 123) (pc2 := 29) (y' := mX4_isReached) (vs := [.inl l1, .inl l2, .inl x16]) rfl (by decide +kernel) okX4_isReached ⟨by decide, by decide⟩ ⟨lm_X4_123, ivX4_isReached⟩ zSh_19 zc_4 (Nat.le_of_ble_eq_true rfl) ⟨rfl, rfl⟩ rfl (WP.c0i f22 (fun x17 _ f21 =>
  WP.if_eq (pc2 := 32) (off := 6) (tgt := 35) rfl (by decide +kernel) (by decide) (fun h18 => have f19 := f21.1 h18
  WP.iinc (pc2 := 38) (i := 4) (d := 1) rfl (by decide +kernel) rfl f19.1 <|
  WP.goto (off := -35) (tgt := 3) (by decide +kernel) (by decide) <|
  f19.2) (fun h18 => have f20 := f21.2 h18
  WP.iload (pc2 := 34) (i := 5) rfl (by decide +kernel) rfl <|
  WP.iret (by decide +kernel) rfl (fun hx => ⟨_, rfl, hx, rfl, rfl, f20⟩))))))))
set_option maxRecDepth 100000 in
set_option maxHeartbeats 4000000 in
theorem GX4_beside {hi : zI} {hr : zR} {P : Int → Prop} (hR : RSc hr) (l1 : Int) (l2 : Int) 
    (F : (zInR (l1 + l2)) ∧ ((0 ≤ l1 + l2 ∧ l1 + l2 < 4816) ∧ ((l2 ≤ 0 → ((zInR (l2 + 1)) ∧ ((hi 19 0 8 ≤ l2 + 1 → (P (zlor (zlor (zlor (zlshl (hi 20 0 (l1 + l2)) 1) (zlushr (hi 20 0 (l1 + l2)) 1)) 0) 0))) ∧ (l2 + 1 < hi 19 0 8 → ((zInR (l1 + l2)) ∧ ((zInR ((l1 + l2) + 1)) ∧ ((0 ≤ (l1 + l2) + 1 ∧ (l1 + l2) + 1 < 4816) ∧ (P (zlor (zlor (zlor (zlshl (hi 20 0 (l1 + l2)) 1) (zlushr (hi 20 0 (l1 + l2)) 1)) 0) (hi 20 0 ((l1 + l2) + 1))))))))))) ∧ (0 < l2 → ((zInR (l1 + l2)) ∧ ((zInR ((l1 + l2) - 1)) ∧ ((0 ≤ (l1 + l2) - 1 ∧ (l1 + l2) - 1 < 4816) ∧ ((zInR (l2 + 1)) ∧ ((hi 19 0 8 ≤ l2 + 1 → (P (zlor (zlor (zlor (zlshl (hi 20 0 (l1 + l2)) 1) (zlushr (hi 20 0 (l1 + l2)) 1)) (hi 20 0 ((l1 + l2) - 1))) 0))) ∧ (l2 + 1 < hi 19 0 8 → ((zInR (l1 + l2)) ∧ ((zInR ((l1 + l2) + 1)) ∧ ((0 ≤ (l1 + l2) + 1 ∧ (l1 + l2) + 1 < 4816) ∧ (P (zlor (zlor (zlor (zlshl (hi 20 0 (l1 + l2)) 1) (zlushr (hi 20 0 (l1 + l2)) 1)) (hi 20 0 ((l1 + l2) - 1))) (hi 20 0 ((l1 + l2) + 1))))))))))))))))) :
    W0l mX4_beside [.inr (some (19, 0)), .inl l1, .inl l2] hi hr P :=
  WPm.of rfl (show WP mX4_beside 0 [some (.inr (some (19, 0))), some (.inl l1), some (.inl l2), none, none, none, none, none, none] [] hi hr (zQ0l hi hr P) from
  WP.aload_n (pc2 := 1) (i := 0) rfl (by decide +kernel) rfl <|
  WP.getR (pc2 := 4) rfl (by decide +kernel) zc_4 zSh_19 (by decide) rfl lf_X4_9 rfl (rs_19_0 hR) <|
  WP.iload_n (pc2 := 5) (i := 1) rfl (by decide +kernel) rfl <|
  WP.iload_n (pc2 := 6) (i := 2) rfl (by decide +kernel) rfl <|
  WP.iadd (pc2 := 7) rfl (by decide +kernel) F.1 <|
  WP.laload (pc2 := 8) rfl (by decide +kernel) zSh_20 rfl F.2.1 rfl <|
  WP.lstore_n (pc2 := 9) (i := 3) rfl (by decide +kernel) (by decide) <|
  WP.iload_n (pc2 := 10) (i := 2) rfl (by decide +kernel) rfl <|
  WP.if_le (pc2 := 13) (off := 16) (tgt := 26) rfl (by decide +kernel) (by decide) (fun h7 => have f8 := F.2.2.1 h7
  WP.lconst (pc2 := 27) (x := 0) (i := 0) rfl rfl (by decide +kernel) <|
  WP.lstore (pc2 := 29) (i := 5) rfl (by decide +kernel) (by decide) <|
  WP.iload_n (pc2 := 30) (i := 2) rfl (by decide +kernel) rfl <|
  WP.iconst (pc2 := 31) (x := 1) rfl (by decide +kernel) (by decide) <|
  WP.iadd (pc2 := 32) rfl (by decide +kernel) f8.1 <|
  WP.aload_n (pc2 := 33) (i := 0) rfl (by decide +kernel) rfl <|
  WP.getI (pc2 := 36) rfl (by decide +kernel) zc_4 zSh_19 (by decide) rfl lf_X4_51 rfl rfl <|
  WP.icmp_ge (pc2 := 39) (off := 16) (tgt := 52) rfl (by decide +kernel) (by decide) (fun h1 => have f2 := f8.2.1 h1
  WP.lconst (pc2 := 53) (x := 0) (i := 0) rfl rfl (by decide +kernel) <|
  WP.lstore (pc2 := 55) (i := 7) rfl (by decide +kernel) (by decide) <|
  WP.lload_n (pc2 := 56) (i := 3) rfl (by decide +kernel) rfl rfl <|
  WP.iconst (pc2 := 57) (x := 1) rfl (by decide +kernel) (by decide) <|
  WP.lshl (pc2 := 58) rfl (by decide +kernel) <|
  WP.lload_n (pc2 := 59) (i := 3) rfl (by decide +kernel) rfl rfl <|
  WP.iconst (pc2 := 60) (x := 1) rfl (by decide +kernel) (by decide) <|
  WP.lushr (pc2 := 61) rfl (by decide +kernel) <|
  WP.lor (pc2 := 62) rfl (by decide +kernel) <|
  WP.lload (pc2 := 64) (i := 5) rfl (by decide +kernel) rfl rfl <|
  WP.lor (pc2 := 65) rfl (by decide +kernel) <|
  WP.lload (pc2 := 67) (i := 7) rfl (by decide +kernel) rfl rfl <|
  WP.lor (pc2 := 68) rfl (by decide +kernel) <|
  WP.lret (by decide +kernel) rfl ⟨_, rfl, rfl, rfl, f2⟩) (fun h1 => have f3 := f8.2.2 h1
  WP.aload_n (pc2 := 40) (i := 0) rfl (by decide +kernel) rfl <|
  WP.getR (pc2 := 43) rfl (by decide +kernel) zc_4 zSh_19 (by decide) rfl lf_X4_9 rfl (rs_19_0 hR) <|
  WP.iload_n (pc2 := 44) (i := 1) rfl (by decide +kernel) rfl <|
  WP.iload_n (pc2 := 45) (i := 2) rfl (by decide +kernel) rfl <|
  WP.iadd (pc2 := 46) rfl (by decide +kernel) f3.1 <|
  WP.iconst (pc2 := 47) (x := 1) rfl (by decide +kernel) (by decide) <|
  WP.iadd (pc2 := 48) rfl (by decide +kernel) f3.2.1 <|
  WP.laload (pc2 := 49) rfl (by decide +kernel) zSh_20 rfl f3.2.2.1 rfl <|
  WP.goto (off := 4) (tgt := 53) (by decide +kernel) (by decide) <|
  WP.lstore (pc2 := 55) (i := 7) rfl (by decide +kernel) (by decide) <|
  WP.lload_n (pc2 := 56) (i := 3) rfl (by decide +kernel) rfl rfl <|
  WP.iconst (pc2 := 57) (x := 1) rfl (by decide +kernel) (by decide) <|
  WP.lshl (pc2 := 58) rfl (by decide +kernel) <|
  WP.lload_n (pc2 := 59) (i := 3) rfl (by decide +kernel) rfl rfl <|
  WP.iconst (pc2 := 60) (x := 1) rfl (by decide +kernel) (by decide) <|
  WP.lushr (pc2 := 61) rfl (by decide +kernel) <|
  WP.lor (pc2 := 62) rfl (by decide +kernel) <|
  WP.lload (pc2 := 64) (i := 5) rfl (by decide +kernel) rfl rfl <|
  WP.lor (pc2 := 65) rfl (by decide +kernel) <|
  WP.lload (pc2 := 67) (i := 7) rfl (by decide +kernel) rfl rfl <|
  WP.lor (pc2 := 68) rfl (by decide +kernel) <|
  WP.lret (by decide +kernel) rfl ⟨_, rfl, rfl, rfl, f3.2.2.2⟩)) (fun h7 => have f9 := F.2.2.2 h7
  WP.aload_n (pc2 := 14) (i := 0) rfl (by decide +kernel) rfl <|
  WP.getR (pc2 := 17) rfl (by decide +kernel) zc_4 zSh_19 (by decide) rfl lf_X4_9 rfl (rs_19_0 hR) <|
  WP.iload_n (pc2 := 18) (i := 1) rfl (by decide +kernel) rfl <|
  WP.iload_n (pc2 := 19) (i := 2) rfl (by decide +kernel) rfl <|
  WP.iadd (pc2 := 20) rfl (by decide +kernel) f9.1 <|
  WP.iconst (pc2 := 21) (x := 1) rfl (by decide +kernel) (by decide) <|
  WP.isub (pc2 := 22) rfl (by decide +kernel) f9.2.1 <|
  WP.laload (pc2 := 23) rfl (by decide +kernel) zSh_20 rfl f9.2.2.1 rfl <|
  WP.goto (off := 4) (tgt := 27) (by decide +kernel) (by decide) <|
  WP.lstore (pc2 := 29) (i := 5) rfl (by decide +kernel) (by decide) <|
  WP.iload_n (pc2 := 30) (i := 2) rfl (by decide +kernel) rfl <|
  WP.iconst (pc2 := 31) (x := 1) rfl (by decide +kernel) (by decide) <|
  WP.iadd (pc2 := 32) rfl (by decide +kernel) f9.2.2.2.1 <|
  WP.aload_n (pc2 := 33) (i := 0) rfl (by decide +kernel) rfl <|
  WP.getI (pc2 := 36) rfl (by decide +kernel) zc_4 zSh_19 (by decide) rfl lf_X4_51 rfl rfl <|
  WP.icmp_ge (pc2 := 39) (off := 16) (tgt := 52) rfl (by decide +kernel) (by decide) (fun h4 => have f5 := f9.2.2.2.2.1 h4
  WP.lconst (pc2 := 53) (x := 0) (i := 0) rfl rfl (by decide +kernel) <|
  WP.lstore (pc2 := 55) (i := 7) rfl (by decide +kernel) (by decide) <|
  WP.lload_n (pc2 := 56) (i := 3) rfl (by decide +kernel) rfl rfl <|
  WP.iconst (pc2 := 57) (x := 1) rfl (by decide +kernel) (by decide) <|
  WP.lshl (pc2 := 58) rfl (by decide +kernel) <|
  WP.lload_n (pc2 := 59) (i := 3) rfl (by decide +kernel) rfl rfl <|
  WP.iconst (pc2 := 60) (x := 1) rfl (by decide +kernel) (by decide) <|
  WP.lushr (pc2 := 61) rfl (by decide +kernel) <|
  WP.lor (pc2 := 62) rfl (by decide +kernel) <|
  WP.lload (pc2 := 64) (i := 5) rfl (by decide +kernel) rfl rfl <|
  WP.lor (pc2 := 65) rfl (by decide +kernel) <|
  WP.lload (pc2 := 67) (i := 7) rfl (by decide +kernel) rfl rfl <|
  WP.lor (pc2 := 68) rfl (by decide +kernel) <|
  WP.lret (by decide +kernel) rfl ⟨_, rfl, rfl, rfl, f5⟩) (fun h4 => have f6 := f9.2.2.2.2.2 h4
  WP.aload_n (pc2 := 40) (i := 0) rfl (by decide +kernel) rfl <|
  WP.getR (pc2 := 43) rfl (by decide +kernel) zc_4 zSh_19 (by decide) rfl lf_X4_9 rfl (rs_19_0 hR) <|
  WP.iload_n (pc2 := 44) (i := 1) rfl (by decide +kernel) rfl <|
  WP.iload_n (pc2 := 45) (i := 2) rfl (by decide +kernel) rfl <|
  WP.iadd (pc2 := 46) rfl (by decide +kernel) f6.1 <|
  WP.iconst (pc2 := 47) (x := 1) rfl (by decide +kernel) (by decide) <|
  WP.iadd (pc2 := 48) rfl (by decide +kernel) f6.2.1 <|
  WP.laload (pc2 := 49) rfl (by decide +kernel) zSh_20 rfl f6.2.2.1 rfl <|
  WP.goto (off := 4) (tgt := 53) (by decide +kernel) (by decide) <|
  WP.lstore (pc2 := 55) (i := 7) rfl (by decide +kernel) (by decide) <|
  WP.lload_n (pc2 := 56) (i := 3) rfl (by decide +kernel) rfl rfl <|
  WP.iconst (pc2 := 57) (x := 1) rfl (by decide +kernel) (by decide) <|
  WP.lshl (pc2 := 58) rfl (by decide +kernel) <|
  WP.lload_n (pc2 := 59) (i := 3) rfl (by decide +kernel) rfl rfl <|
  WP.iconst (pc2 := 60) (x := 1) rfl (by decide +kernel) (by decide) <|
  WP.lushr (pc2 := 61) rfl (by decide +kernel) <|
  WP.lor (pc2 := 62) rfl (by decide +kernel) <|
  WP.lload (pc2 := 64) (i := 5) rfl (by decide +kernel) rfl rfl <|
  WP.lor (pc2 := 65) rfl (by decide +kernel) <|
  WP.lload (pc2 := 67) (i := 7) rfl (by decide +kernel) rfl rfl <|
  WP.lor (pc2 := 68) rfl (by decide +kernel) <|
  WP.lret (by decide +kernel) rfl ⟨_, rfl, rfl, rfl, f6.2.2.2⟩)))
set_option maxRecDepth 100000 in
set_option maxHeartbeats 4000000 in
theorem GX4_clearStep {hi : zI} {hr : zR} {P : zI → Prop} (l1 : Int) 
    (F : (zInR (l1 * 16)) ∧ (WP mX4_clearStep 7 [some (.inr (some (19, 0))), some (.inl l1), some (.inl (l1 * 16)), some (.inl 0)] [] hi hr (zQ1v hr P))) :
    W1v mX4_clearStep [.inr (some (19, 0)), .inl l1] hi hr P :=
  WPm.of rfl (show WP mX4_clearStep 0 [some (.inr (some (19, 0))), some (.inl l1), none, none] [] hi hr (zQ1v hr P) from
  WP.iload_n (pc2 := 1) (i := 1) rfl (by decide +kernel) rfl <|
  WP.bipush (pc2 := 3) (x := 16) rfl (by decide +kernel) ⟨by decide +kernel, by decide⟩ <|
  WP.imul (pc2 := 4) rfl (by decide +kernel) F.1 <|
  WP.istore_n (pc2 := 5) (i := 2) rfl (by decide +kernel) (by decide) <|
  WP.iconst (pc2 := 6) (x := 0) rfl (by decide +kernel) (by decide) <|
  WP.istore_n (pc2 := 7) (i := 3) rfl (by decide +kernel) (by decide) <|
  F.2)

set_option maxRecDepth 100000 in
set_option maxHeartbeats 4000000 in
theorem GX4_clearStep_7 {hi : zI} {hr : zR} {P : zI → Prop} (hR : RSc hr) (l1 : Int) (a2 : Int) (a3 : Int) 
    (F : (16 ≤ a3 → P hi) ∧ (a3 < 16 → ((zInR (a2 + a3)) ∧ ((4816 ≤ a2 + a3 → P hi) ∧ (a2 + a3 < 4816 → ((zInR (a2 + a3)) ∧ ((0 ≤ a2 + a3 ∧ a2 + a3 < 4816) ∧ ((zInR (a3 + 1)) ∧ (WP mX4_clearStep 7 [some (.inr (some (19, 0))), some (.inl l1), some (.inl a2), some (.inl (a3 + 1))] [] (zup hi 20 0 (a2 + a3) 0) hr (zQ1v hr P)))))))))) :
    WP mX4_clearStep 7 [some (.inr (some (19, 0))), some (.inl l1), some (.inl a2), some (.inl a3)] [] hi hr (zQ1v hr P) :=
  WP.iload_n (pc2 := 8) (i := 3) rfl (by decide +kernel) rfl <|
  WP.bipush (pc2 := 10) (x := 16) rfl (by decide +kernel) ⟨by decide +kernel, by decide⟩ <|
  WP.icmp_ge (pc2 := 13) (off := 29) (tgt := 39) rfl (by decide +kernel) (by decide) (fun h4 => have f5 := F.1 h4
  WP.vret (by decide +kernel) rfl ⟨rfl, rfl, f5⟩) (fun h4 => have f6 := F.2 h4
  WP.iload_n (pc2 := 14) (i := 2) rfl (by decide +kernel) rfl <|
  WP.iload_n (pc2 := 15) (i := 3) rfl (by decide +kernel) rfl <|
  WP.iadd (pc2 := 16) rfl (by decide +kernel) f6.1 <|
  WP.aload_n (pc2 := 17) (i := 0) rfl (by decide +kernel) rfl <|
  WP.getR (pc2 := 20) rfl (by decide +kernel) zc_4 zSh_19 (by decide) rfl lf_X4_9 rfl (rs_19_0 hR) <|
  WP.alen (pc2 := 21) rfl (by decide +kernel) zSh_20 (by decide) (by decide) rfl <|
  WP.icmp_ge (pc2 := 24) (off := 18) (tgt := 39) rfl (by decide +kernel) (by decide) (fun h1 => have f2 := f6.2.1 h1
  WP.vret (by decide +kernel) rfl ⟨rfl, rfl, f2⟩) (fun h1 => have f3 := f6.2.2 h1
  WP.aload_n (pc2 := 25) (i := 0) rfl (by decide +kernel) rfl <|
  WP.getR (pc2 := 28) rfl (by decide +kernel) zc_4 zSh_19 (by decide) rfl lf_X4_9 rfl (rs_19_0 hR) <|
  WP.iload_n (pc2 := 29) (i := 2) rfl (by decide +kernel) rfl <|
  WP.iload_n (pc2 := 30) (i := 3) rfl (by decide +kernel) rfl <|
  WP.iadd (pc2 := 31) rfl (by decide +kernel) f3.1 <|
  WP.lconst (pc2 := 32) (x := 0) (i := 0) rfl rfl (by decide +kernel) <|
  WP.lastore (pc2 := 33) rfl (by decide +kernel) zSh_20 rfl f3.2.1 <|
  WP.iinc (pc2 := 36) (i := 3) (d := 1) rfl (by decide +kernel) rfl f3.2.2.1 <|
  WP.goto (off := -29) (tgt := 7) (by decide +kernel) (by decide) <|
  f3.2.2.2))
set_option maxRecDepth 100000 in
set_option maxHeartbeats 4000000 in
theorem GX4_markAllStages_Open {hi : zI} {hr : zR} {P : zI → Prop} (l2 : Int) 
    (F : WP mX4_markAllStages 2 [some (.inr (some (19, 0))), some (.inr (some (21, 0))), some (.inl l2), some (.inl 0)] [] hi hr (zQ1v hr P)) :
    W1v mX4_markAllStages [.inr (some (19, 0)), .inr (some (21, 0)), .inl l2] hi hr P :=
  WPm.of rfl (show WP mX4_markAllStages 0 [some (.inr (some (19, 0))), some (.inr (some (21, 0))), some (.inl l2), none] [] hi hr (zQ1v hr P) from
  WP.iconst (pc2 := 1) (x := 0) rfl (by decide +kernel) (by decide) <|
  WP.istore_n (pc2 := 2) (i := 3) rfl (by decide +kernel) (by decide) <|
  F)

set_option maxRecDepth 100000 in
set_option maxHeartbeats 4000000 in
theorem GX4_markAllStages_Open_2 {hi : zI} {hr : zR} {P : zI → Prop} (l2 : Int) (a3 : Int) 
    (F : (3 ≤ a3 → P hi) ∧ (a3 < 3 → (W1v mX4_mark [.inr (some (19, 0)), .inr (some (21, 0)), .inl 0, .inl a3, .inl l2] hi hr (fun (hi1 : zI) => (zInR (a3 + 1)) ∧ (WP mX4_markAllStages 2 [some (.inr (some (19, 0))), some (.inr (some (21, 0))), some (.inl l2), some (.inl (a3 + 1))] [] hi1 hr (zQ1v hr P)))))) :
    WP mX4_markAllStages 2 [some (.inr (some (19, 0))), some (.inr (some (21, 0))), some (.inl l2), some (.inl a3)] [] hi hr (zQ1v hr P) :=
  WP.iload_n (pc2 := 3) (i := 3) rfl (by decide +kernel) rfl <|
  WP.iconst (pc2 := 4) (x := 3) rfl (by decide +kernel) (by decide) <|
  WP.icmp_ge (pc2 := 7) (off := 17) (tgt := 21) rfl (by decide +kernel) (by decide) (fun h3 => have f4 := F.1 h3
  WP.vret (by decide +kernel) rfl ⟨rfl, rfl, f4⟩) (fun h3 => have f5 := F.2 h3
  WP.aload_n (pc2 := 8) (i := 0) rfl (by decide +kernel) rfl <|
  WP.aload_n (pc2 := 9) (i := 1) rfl (by decide +kernel) rfl <|
  WP.iconst (pc2 := 10) (x := 0) rfl (by decide +kernel) (by decide) <|
  WP.iload_n (pc2 := 11) (i := 3) rfl (by decide +kernel) rfl <|
  WP.iload_n (pc2 := 12) (i := 2) rfl (by decide +kernel) rfl <|
  WP.callV (y := mX4_markAllStages) (index := 107) (pc2 := 15) (y' := mX4_mark) (vs := [.inr (some (21, 0)), .inl 0, .inl a3, .inl l2]) rfl (by decide +kernel) okX4_mark ⟨by decide, by decide⟩ ⟨lm_X4_107, ivX4_mark⟩ zSh_19 zc_4 (Nat.le_of_ble_eq_true rfl) ⟨rfl, rfl⟩ rfl (WP.c1v f5 (fun hi1 f2 =>
  WP.iinc (pc2 := 18) (i := 3) (d := 1) rfl (by decide +kernel) rfl f2.1 <|
  WP.goto (off := -16) (tgt := 2) (by decide +kernel) (by decide) <|
  f2.2)))
set_option maxRecDepth 100000 in
set_option maxHeartbeats 4000000 in
theorem GX4_markAllStages_Held {hi : zI} {hr : zR} {P : zI → Prop} (ja : Int) (l2 : Int) 
    (F : WP mX4_markAllStages 2 [some (.inr (some (19, 0))), some (.inr (some (23, ja))), some (.inl l2), some (.inl 0)] [] hi hr (zQ1v hr P)) :
    W1v mX4_markAllStages [.inr (some (19, 0)), .inr (some (23, ja)), .inl l2] hi hr P :=
  WPm.of rfl (show WP mX4_markAllStages 0 [some (.inr (some (19, 0))), some (.inr (some (23, ja))), some (.inl l2), none] [] hi hr (zQ1v hr P) from
  WP.iconst (pc2 := 1) (x := 0) rfl (by decide +kernel) (by decide) <|
  WP.istore_n (pc2 := 2) (i := 3) rfl (by decide +kernel) (by decide) <|
  F)

set_option maxRecDepth 100000 in
set_option maxHeartbeats 4000000 in
theorem GX4_markAllStages_Held_2 {hi : zI} {hr : zR} {P : zI → Prop} (ja : Int) (l2 : Int) (a3 : Int) 
    (F : (3 ≤ a3 → P hi) ∧ (a3 < 3 → (W1v mX4_mark [.inr (some (19, 0)), .inr (some (23, ja)), .inl 0, .inl a3, .inl l2] hi hr (fun (hi1 : zI) => (zInR (a3 + 1)) ∧ (WP mX4_markAllStages 2 [some (.inr (some (19, 0))), some (.inr (some (23, ja))), some (.inl l2), some (.inl (a3 + 1))] [] hi1 hr (zQ1v hr P)))))) :
    WP mX4_markAllStages 2 [some (.inr (some (19, 0))), some (.inr (some (23, ja))), some (.inl l2), some (.inl a3)] [] hi hr (zQ1v hr P) :=
  WP.iload_n (pc2 := 3) (i := 3) rfl (by decide +kernel) rfl <|
  WP.iconst (pc2 := 4) (x := 3) rfl (by decide +kernel) (by decide) <|
  WP.icmp_ge (pc2 := 7) (off := 17) (tgt := 21) rfl (by decide +kernel) (by decide) (fun h3 => have f4 := F.1 h3
  WP.vret (by decide +kernel) rfl ⟨rfl, rfl, f4⟩) (fun h3 => have f5 := F.2 h3
  WP.aload_n (pc2 := 8) (i := 0) rfl (by decide +kernel) rfl <|
  WP.aload_n (pc2 := 9) (i := 1) rfl (by decide +kernel) rfl <|
  WP.iconst (pc2 := 10) (x := 0) rfl (by decide +kernel) (by decide) <|
  WP.iload_n (pc2 := 11) (i := 3) rfl (by decide +kernel) rfl <|
  WP.iload_n (pc2 := 12) (i := 2) rfl (by decide +kernel) rfl <|
  WP.callV (y := mX4_markAllStages) (index := 107) (pc2 := 15) (y' := mX4_mark) (vs := [.inr (some (23, ja)), .inl 0, .inl a3, .inl l2]) rfl (by decide +kernel) okX4_mark ⟨by decide, by decide⟩ ⟨lm_X4_107, ivX4_mark⟩ zSh_19 zc_4 (Nat.le_of_ble_eq_true rfl) ⟨rfl, rfl⟩ rfl (WP.c1v f5 (fun hi1 f2 =>
  WP.iinc (pc2 := 18) (i := 3) (d := 1) rfl (by decide +kernel) rfl f2.1 <|
  WP.goto (off := -16) (tgt := 2) (by decide +kernel) (by decide) <|
  f2.2)))
set_option maxRecDepth 100000 in
set_option maxHeartbeats 4000000 in
theorem GX4_mark_Open {hi : zI} {hr : zR} {P : zI → Prop} (l2 : Int) (l3 : Int) (l4 : Int) 
    (F : (l4 < 0 → P hi) ∧ (0 ≤ l4 → ((0 < hi 19 0 7 → ((zInR (l2 * 16)) ∧ ((0 ≤ l4 ∧ 0 < hi 19 0 7) ∧ ((zInR ((l2 * 16) + (l4 / (hi 19 0 7)))) ∧ (((l2 * 16) + (l4 / (hi 19 0 7)) < 0 → P hi) ∧ (0 ≤ (l2 * 16) + (l4 / (hi 19 0 7)) → ((16 ≤ (l2 * 16) + (l4 / (hi 19 0 7)) → P hi) ∧ ((l2 * 16) + (l4 / (hi 19 0 7)) < 16 → ((0 ≤ (l2 * 16) + (l4 / (hi 19 0 7)) ∧ (l2 * 16) + (l4 / (hi 19 0 7)) < 16) ∧ ((zInR (l3 * 20)) ∧ ((0 ≤ l4 ∧ 0 < hi 19 0 7) ∧ ((zInR ((l3 * 20) + (l4 % (hi 19 0 7)))) ∧ ((0 ≤ (l2 * 16) + (l4 / (hi 19 0 7)) ∧ (l2 * 16) + (l4 / (hi 19 0 7)) < 16) ∧ (P (zup hi 21 0 ((l2 * 16) + (l4 / (hi 19 0 7))) (zlor (hi 21 0 ((l2 * 16) + (l4 / (hi 19 0 7)))) (zlshl 1 ((l3 * 20) + (l4 % (hi 19 0 7)))))))))))))))))))) ∧ (hi 19 0 7 ≤ 0 → P hi)))) :
    W1v mX4_mark [.inr (some (19, 0)), .inr (some (21, 0)), .inl l2, .inl l3, .inl l4] hi hr P :=
  WPm.of rfl (show WP mX4_mark 0 [some (.inr (some (19, 0))), some (.inr (some (21, 0))), some (.inl l2), some (.inl l3), some (.inl l4), none] [] hi hr (zQ1v hr P) from
  WP.iload (pc2 := 2) (i := 4) rfl (by decide +kernel) rfl <|
  WP.if_lt (pc2 := 5) (off := 10) (tgt := 12) rfl (by decide +kernel) (by decide) (fun h10 => have f11 := F.1 h10
  WP.vret (by decide +kernel) rfl ⟨rfl, rfl, f11⟩) (fun h10 => have f12 := F.2 h10
  WP.aload_n (pc2 := 6) (i := 0) rfl (by decide +kernel) rfl <|
  WP.getI (pc2 := 9) rfl (by decide +kernel) zc_4 zSh_19 (by decide) rfl lf_X4_27 rfl rfl <|
  WP.if_gt (pc2 := 12) (off := 4) (tgt := 13) rfl (by decide +kernel) (by decide) (fun h7 => have f8 := f12.1 h7
  WP.iload_n (pc2 := 14) (i := 2) rfl (by decide +kernel) rfl <|
  WP.bipush (pc2 := 16) (x := 16) rfl (by decide +kernel) ⟨by decide +kernel, by decide⟩ <|
  WP.imul (pc2 := 17) rfl (by decide +kernel) f8.1 <|
  WP.iload (pc2 := 19) (i := 4) rfl (by decide +kernel) rfl <|
  WP.aload_n (pc2 := 20) (i := 0) rfl (by decide +kernel) rfl <|
  WP.getI (pc2 := 23) rfl (by decide +kernel) zc_4 zSh_19 (by decide) rfl lf_X4_27 rfl rfl <|
  WP.idiv (pc2 := 24) rfl (by decide +kernel) f8.2.1.1 f8.2.1.2 <|
  WP.iadd (pc2 := 25) rfl (by decide +kernel) f8.2.2.1 <|
  WP.istore (pc2 := 27) (i := 5) rfl (by decide +kernel) (by decide) <|
  WP.iload (pc2 := 29) (i := 5) rfl (by decide +kernel) rfl <|
  WP.if_lt (pc2 := 32) (off := 31) (tgt := 60) rfl (by decide +kernel) (by decide) (fun h4 => have f5 := f8.2.2.2.1 h4
  WP.vret (by decide +kernel) rfl ⟨rfl, rfl, f5⟩) (fun h4 => have f6 := f8.2.2.2.2 h4
  WP.iload (pc2 := 34) (i := 5) rfl (by decide +kernel) rfl <|
  WP.aload_n (pc2 := 35) (i := 1) rfl (by decide +kernel) rfl <|
  WP.alen (pc2 := 36) rfl (by decide +kernel) zSh_21 (by decide) (by decide) rfl <|
  WP.icmp_ge (pc2 := 39) (off := 24) (tgt := 60) rfl (by decide +kernel) (by decide) (fun h1 => have f2 := f6.1 h1
  WP.vret (by decide +kernel) rfl ⟨rfl, rfl, f2⟩) (fun h1 => have f3 := f6.2 h1
  WP.aload_n (pc2 := 40) (i := 1) rfl (by decide +kernel) rfl <|
  WP.iload (pc2 := 42) (i := 5) rfl (by decide +kernel) rfl <|
  WP.dup2 (pc2 := 43) rfl (by decide +kernel) <|
  WP.laload (pc2 := 44) rfl (by decide +kernel) zSh_21 rfl f3.1 rfl <|
  WP.lconst (pc2 := 45) (x := 1) (i := 1) rfl rfl (by decide +kernel) <|
  WP.iload_n (pc2 := 46) (i := 3) rfl (by decide +kernel) rfl <|
  WP.bipush (pc2 := 48) (x := 20) rfl (by decide +kernel) ⟨by decide +kernel, by decide⟩ <|
  WP.imul (pc2 := 49) rfl (by decide +kernel) f3.2.1 <|
  WP.iload (pc2 := 51) (i := 4) rfl (by decide +kernel) rfl <|
  WP.aload_n (pc2 := 52) (i := 0) rfl (by decide +kernel) rfl <|
  WP.getI (pc2 := 55) rfl (by decide +kernel) zc_4 zSh_19 (by decide) rfl lf_X4_27 rfl rfl <|
  WP.irem (pc2 := 56) rfl (by decide +kernel) f3.2.2.1.1 f3.2.2.1.2 <|
  WP.iadd (pc2 := 57) rfl (by decide +kernel) f3.2.2.2.1 <|
  WP.lshl (pc2 := 58) rfl (by decide +kernel) <|
  WP.lor (pc2 := 59) rfl (by decide +kernel) <|
  WP.lastore (pc2 := 60) rfl (by decide +kernel) zSh_21 rfl f3.2.2.2.2.1 <|
  WP.vret (by decide +kernel) rfl ⟨rfl, rfl, f3.2.2.2.2.2⟩))) (fun h7 => have f9 := f12.2 h7
  WP.vret (by decide +kernel) rfl ⟨rfl, rfl, f9⟩)))
set_option maxRecDepth 100000 in
set_option maxHeartbeats 4000000 in
theorem GX4_mark_Turns {hi : zI} {hr : zR} {P : zI → Prop} (l2 : Int) (l3 : Int) (l4 : Int) 
    (F : (l4 < 0 → P hi) ∧ (0 ≤ l4 → ((0 < hi 19 0 7 → ((zInR (l2 * 16)) ∧ ((0 ≤ l4 ∧ 0 < hi 19 0 7) ∧ ((zInR ((l2 * 16) + (l4 / (hi 19 0 7)))) ∧ (((l2 * 16) + (l4 / (hi 19 0 7)) < 0 → P hi) ∧ (0 ≤ (l2 * 16) + (l4 / (hi 19 0 7)) → ((16 ≤ (l2 * 16) + (l4 / (hi 19 0 7)) → P hi) ∧ ((l2 * 16) + (l4 / (hi 19 0 7)) < 16 → ((0 ≤ (l2 * 16) + (l4 / (hi 19 0 7)) ∧ (l2 * 16) + (l4 / (hi 19 0 7)) < 16) ∧ ((zInR (l3 * 20)) ∧ ((0 ≤ l4 ∧ 0 < hi 19 0 7) ∧ ((zInR ((l3 * 20) + (l4 % (hi 19 0 7)))) ∧ ((0 ≤ (l2 * 16) + (l4 / (hi 19 0 7)) ∧ (l2 * 16) + (l4 / (hi 19 0 7)) < 16) ∧ (P (zup hi 22 0 ((l2 * 16) + (l4 / (hi 19 0 7))) (zlor (hi 22 0 ((l2 * 16) + (l4 / (hi 19 0 7)))) (zlshl 1 ((l3 * 20) + (l4 % (hi 19 0 7)))))))))))))))))))) ∧ (hi 19 0 7 ≤ 0 → P hi)))) :
    W1v mX4_mark [.inr (some (19, 0)), .inr (some (22, 0)), .inl l2, .inl l3, .inl l4] hi hr P :=
  WPm.of rfl (show WP mX4_mark 0 [some (.inr (some (19, 0))), some (.inr (some (22, 0))), some (.inl l2), some (.inl l3), some (.inl l4), none] [] hi hr (zQ1v hr P) from
  WP.iload (pc2 := 2) (i := 4) rfl (by decide +kernel) rfl <|
  WP.if_lt (pc2 := 5) (off := 10) (tgt := 12) rfl (by decide +kernel) (by decide) (fun h10 => have f11 := F.1 h10
  WP.vret (by decide +kernel) rfl ⟨rfl, rfl, f11⟩) (fun h10 => have f12 := F.2 h10
  WP.aload_n (pc2 := 6) (i := 0) rfl (by decide +kernel) rfl <|
  WP.getI (pc2 := 9) rfl (by decide +kernel) zc_4 zSh_19 (by decide) rfl lf_X4_27 rfl rfl <|
  WP.if_gt (pc2 := 12) (off := 4) (tgt := 13) rfl (by decide +kernel) (by decide) (fun h7 => have f8 := f12.1 h7
  WP.iload_n (pc2 := 14) (i := 2) rfl (by decide +kernel) rfl <|
  WP.bipush (pc2 := 16) (x := 16) rfl (by decide +kernel) ⟨by decide +kernel, by decide⟩ <|
  WP.imul (pc2 := 17) rfl (by decide +kernel) f8.1 <|
  WP.iload (pc2 := 19) (i := 4) rfl (by decide +kernel) rfl <|
  WP.aload_n (pc2 := 20) (i := 0) rfl (by decide +kernel) rfl <|
  WP.getI (pc2 := 23) rfl (by decide +kernel) zc_4 zSh_19 (by decide) rfl lf_X4_27 rfl rfl <|
  WP.idiv (pc2 := 24) rfl (by decide +kernel) f8.2.1.1 f8.2.1.2 <|
  WP.iadd (pc2 := 25) rfl (by decide +kernel) f8.2.2.1 <|
  WP.istore (pc2 := 27) (i := 5) rfl (by decide +kernel) (by decide) <|
  WP.iload (pc2 := 29) (i := 5) rfl (by decide +kernel) rfl <|
  WP.if_lt (pc2 := 32) (off := 31) (tgt := 60) rfl (by decide +kernel) (by decide) (fun h4 => have f5 := f8.2.2.2.1 h4
  WP.vret (by decide +kernel) rfl ⟨rfl, rfl, f5⟩) (fun h4 => have f6 := f8.2.2.2.2 h4
  WP.iload (pc2 := 34) (i := 5) rfl (by decide +kernel) rfl <|
  WP.aload_n (pc2 := 35) (i := 1) rfl (by decide +kernel) rfl <|
  WP.alen (pc2 := 36) rfl (by decide +kernel) zSh_22 (by decide) (by decide) rfl <|
  WP.icmp_ge (pc2 := 39) (off := 24) (tgt := 60) rfl (by decide +kernel) (by decide) (fun h1 => have f2 := f6.1 h1
  WP.vret (by decide +kernel) rfl ⟨rfl, rfl, f2⟩) (fun h1 => have f3 := f6.2 h1
  WP.aload_n (pc2 := 40) (i := 1) rfl (by decide +kernel) rfl <|
  WP.iload (pc2 := 42) (i := 5) rfl (by decide +kernel) rfl <|
  WP.dup2 (pc2 := 43) rfl (by decide +kernel) <|
  WP.laload (pc2 := 44) rfl (by decide +kernel) zSh_22 rfl f3.1 rfl <|
  WP.lconst (pc2 := 45) (x := 1) (i := 1) rfl rfl (by decide +kernel) <|
  WP.iload_n (pc2 := 46) (i := 3) rfl (by decide +kernel) rfl <|
  WP.bipush (pc2 := 48) (x := 20) rfl (by decide +kernel) ⟨by decide +kernel, by decide⟩ <|
  WP.imul (pc2 := 49) rfl (by decide +kernel) f3.2.1 <|
  WP.iload (pc2 := 51) (i := 4) rfl (by decide +kernel) rfl <|
  WP.aload_n (pc2 := 52) (i := 0) rfl (by decide +kernel) rfl <|
  WP.getI (pc2 := 55) rfl (by decide +kernel) zc_4 zSh_19 (by decide) rfl lf_X4_27 rfl rfl <|
  WP.irem (pc2 := 56) rfl (by decide +kernel) f3.2.2.1.1 f3.2.2.1.2 <|
  WP.iadd (pc2 := 57) rfl (by decide +kernel) f3.2.2.2.1 <|
  WP.lshl (pc2 := 58) rfl (by decide +kernel) <|
  WP.lor (pc2 := 59) rfl (by decide +kernel) <|
  WP.lastore (pc2 := 60) rfl (by decide +kernel) zSh_22 rfl f3.2.2.2.2.1 <|
  WP.vret (by decide +kernel) rfl ⟨rfl, rfl, f3.2.2.2.2.2⟩))) (fun h7 => have f9 := f12.2 h7
  WP.vret (by decide +kernel) rfl ⟨rfl, rfl, f9⟩)))
set_option maxRecDepth 100000 in
set_option maxHeartbeats 4000000 in
theorem GX4_mark_Reached {hi : zI} {hr : zR} {P : zI → Prop} (l2 : Int) (l3 : Int) (l4 : Int) 
    (F : (l4 < 0 → P hi) ∧ (0 ≤ l4 → ((0 < hi 19 0 7 → ((zInR (l2 * 16)) ∧ ((0 ≤ l4 ∧ 0 < hi 19 0 7) ∧ ((zInR ((l2 * 16) + (l4 / (hi 19 0 7)))) ∧ (((l2 * 16) + (l4 / (hi 19 0 7)) < 0 → P hi) ∧ (0 ≤ (l2 * 16) + (l4 / (hi 19 0 7)) → ((4816 ≤ (l2 * 16) + (l4 / (hi 19 0 7)) → P hi) ∧ ((l2 * 16) + (l4 / (hi 19 0 7)) < 4816 → ((0 ≤ (l2 * 16) + (l4 / (hi 19 0 7)) ∧ (l2 * 16) + (l4 / (hi 19 0 7)) < 4816) ∧ ((zInR (l3 * 20)) ∧ ((0 ≤ l4 ∧ 0 < hi 19 0 7) ∧ ((zInR ((l3 * 20) + (l4 % (hi 19 0 7)))) ∧ ((0 ≤ (l2 * 16) + (l4 / (hi 19 0 7)) ∧ (l2 * 16) + (l4 / (hi 19 0 7)) < 4816) ∧ (P (zup hi 20 0 ((l2 * 16) + (l4 / (hi 19 0 7))) (zlor (hi 20 0 ((l2 * 16) + (l4 / (hi 19 0 7)))) (zlshl 1 ((l3 * 20) + (l4 % (hi 19 0 7)))))))))))))))))))) ∧ (hi 19 0 7 ≤ 0 → P hi)))) :
    W1v mX4_mark [.inr (some (19, 0)), .inr (some (20, 0)), .inl l2, .inl l3, .inl l4] hi hr P :=
  WPm.of rfl (show WP mX4_mark 0 [some (.inr (some (19, 0))), some (.inr (some (20, 0))), some (.inl l2), some (.inl l3), some (.inl l4), none] [] hi hr (zQ1v hr P) from
  WP.iload (pc2 := 2) (i := 4) rfl (by decide +kernel) rfl <|
  WP.if_lt (pc2 := 5) (off := 10) (tgt := 12) rfl (by decide +kernel) (by decide) (fun h10 => have f11 := F.1 h10
  WP.vret (by decide +kernel) rfl ⟨rfl, rfl, f11⟩) (fun h10 => have f12 := F.2 h10
  WP.aload_n (pc2 := 6) (i := 0) rfl (by decide +kernel) rfl <|
  WP.getI (pc2 := 9) rfl (by decide +kernel) zc_4 zSh_19 (by decide) rfl lf_X4_27 rfl rfl <|
  WP.if_gt (pc2 := 12) (off := 4) (tgt := 13) rfl (by decide +kernel) (by decide) (fun h7 => have f8 := f12.1 h7
  WP.iload_n (pc2 := 14) (i := 2) rfl (by decide +kernel) rfl <|
  WP.bipush (pc2 := 16) (x := 16) rfl (by decide +kernel) ⟨by decide +kernel, by decide⟩ <|
  WP.imul (pc2 := 17) rfl (by decide +kernel) f8.1 <|
  WP.iload (pc2 := 19) (i := 4) rfl (by decide +kernel) rfl <|
  WP.aload_n (pc2 := 20) (i := 0) rfl (by decide +kernel) rfl <|
  WP.getI (pc2 := 23) rfl (by decide +kernel) zc_4 zSh_19 (by decide) rfl lf_X4_27 rfl rfl <|
  WP.idiv (pc2 := 24) rfl (by decide +kernel) f8.2.1.1 f8.2.1.2 <|
  WP.iadd (pc2 := 25) rfl (by decide +kernel) f8.2.2.1 <|
  WP.istore (pc2 := 27) (i := 5) rfl (by decide +kernel) (by decide) <|
  WP.iload (pc2 := 29) (i := 5) rfl (by decide +kernel) rfl <|
  WP.if_lt (pc2 := 32) (off := 31) (tgt := 60) rfl (by decide +kernel) (by decide) (fun h4 => have f5 := f8.2.2.2.1 h4
  WP.vret (by decide +kernel) rfl ⟨rfl, rfl, f5⟩) (fun h4 => have f6 := f8.2.2.2.2 h4
  WP.iload (pc2 := 34) (i := 5) rfl (by decide +kernel) rfl <|
  WP.aload_n (pc2 := 35) (i := 1) rfl (by decide +kernel) rfl <|
  WP.alen (pc2 := 36) rfl (by decide +kernel) zSh_20 (by decide) (by decide) rfl <|
  WP.icmp_ge (pc2 := 39) (off := 24) (tgt := 60) rfl (by decide +kernel) (by decide) (fun h1 => have f2 := f6.1 h1
  WP.vret (by decide +kernel) rfl ⟨rfl, rfl, f2⟩) (fun h1 => have f3 := f6.2 h1
  WP.aload_n (pc2 := 40) (i := 1) rfl (by decide +kernel) rfl <|
  WP.iload (pc2 := 42) (i := 5) rfl (by decide +kernel) rfl <|
  WP.dup2 (pc2 := 43) rfl (by decide +kernel) <|
  WP.laload (pc2 := 44) rfl (by decide +kernel) zSh_20 rfl f3.1 rfl <|
  WP.lconst (pc2 := 45) (x := 1) (i := 1) rfl rfl (by decide +kernel) <|
  WP.iload_n (pc2 := 46) (i := 3) rfl (by decide +kernel) rfl <|
  WP.bipush (pc2 := 48) (x := 20) rfl (by decide +kernel) ⟨by decide +kernel, by decide⟩ <|
  WP.imul (pc2 := 49) rfl (by decide +kernel) f3.2.1 <|
  WP.iload (pc2 := 51) (i := 4) rfl (by decide +kernel) rfl <|
  WP.aload_n (pc2 := 52) (i := 0) rfl (by decide +kernel) rfl <|
  WP.getI (pc2 := 55) rfl (by decide +kernel) zc_4 zSh_19 (by decide) rfl lf_X4_27 rfl rfl <|
  WP.irem (pc2 := 56) rfl (by decide +kernel) f3.2.2.1.1 f3.2.2.1.2 <|
  WP.iadd (pc2 := 57) rfl (by decide +kernel) f3.2.2.2.1 <|
  WP.lshl (pc2 := 58) rfl (by decide +kernel) <|
  WP.lor (pc2 := 59) rfl (by decide +kernel) <|
  WP.lastore (pc2 := 60) rfl (by decide +kernel) zSh_20 rfl f3.2.2.2.2.1 <|
  WP.vret (by decide +kernel) rfl ⟨rfl, rfl, f3.2.2.2.2.2⟩))) (fun h7 => have f9 := f12.2 h7
  WP.vret (by decide +kernel) rfl ⟨rfl, rfl, f9⟩)))
set_option maxRecDepth 100000 in
set_option maxHeartbeats 4000000 in
theorem GX4_mark_Held {hi : zI} {hr : zR} {P : zI → Prop} (ja : Int) (l2 : Int) (l3 : Int) (l4 : Int) 
    (F : (l4 < 0 → P hi) ∧ (0 ≤ l4 → ((0 < hi 19 0 7 → ((zInR (l2 * 16)) ∧ ((0 ≤ l4 ∧ 0 < hi 19 0 7) ∧ ((zInR ((l2 * 16) + (l4 / (hi 19 0 7)))) ∧ (((l2 * 16) + (l4 / (hi 19 0 7)) < 0 → P hi) ∧ (0 ≤ (l2 * 16) + (l4 / (hi 19 0 7)) → ((16 ≤ (l2 * 16) + (l4 / (hi 19 0 7)) → P hi) ∧ ((l2 * 16) + (l4 / (hi 19 0 7)) < 16 → ((0 ≤ (l2 * 16) + (l4 / (hi 19 0 7)) ∧ (l2 * 16) + (l4 / (hi 19 0 7)) < 16) ∧ ((zInR (l3 * 20)) ∧ ((0 ≤ l4 ∧ 0 < hi 19 0 7) ∧ ((zInR ((l3 * 20) + (l4 % (hi 19 0 7)))) ∧ ((0 ≤ (l2 * 16) + (l4 / (hi 19 0 7)) ∧ (l2 * 16) + (l4 / (hi 19 0 7)) < 16) ∧ (P (zup hi 23 ja ((l2 * 16) + (l4 / (hi 19 0 7))) (zlor (hi 23 ja ((l2 * 16) + (l4 / (hi 19 0 7)))) (zlshl 1 ((l3 * 20) + (l4 % (hi 19 0 7)))))))))))))))))))) ∧ (hi 19 0 7 ≤ 0 → P hi)))) :
    W1v mX4_mark [.inr (some (19, 0)), .inr (some (23, ja)), .inl l2, .inl l3, .inl l4] hi hr P :=
  WPm.of rfl (show WP mX4_mark 0 [some (.inr (some (19, 0))), some (.inr (some (23, ja))), some (.inl l2), some (.inl l3), some (.inl l4), none] [] hi hr (zQ1v hr P) from
  WP.iload (pc2 := 2) (i := 4) rfl (by decide +kernel) rfl <|
  WP.if_lt (pc2 := 5) (off := 10) (tgt := 12) rfl (by decide +kernel) (by decide) (fun h10 => have f11 := F.1 h10
  WP.vret (by decide +kernel) rfl ⟨rfl, rfl, f11⟩) (fun h10 => have f12 := F.2 h10
  WP.aload_n (pc2 := 6) (i := 0) rfl (by decide +kernel) rfl <|
  WP.getI (pc2 := 9) rfl (by decide +kernel) zc_4 zSh_19 (by decide) rfl lf_X4_27 rfl rfl <|
  WP.if_gt (pc2 := 12) (off := 4) (tgt := 13) rfl (by decide +kernel) (by decide) (fun h7 => have f8 := f12.1 h7
  WP.iload_n (pc2 := 14) (i := 2) rfl (by decide +kernel) rfl <|
  WP.bipush (pc2 := 16) (x := 16) rfl (by decide +kernel) ⟨by decide +kernel, by decide⟩ <|
  WP.imul (pc2 := 17) rfl (by decide +kernel) f8.1 <|
  WP.iload (pc2 := 19) (i := 4) rfl (by decide +kernel) rfl <|
  WP.aload_n (pc2 := 20) (i := 0) rfl (by decide +kernel) rfl <|
  WP.getI (pc2 := 23) rfl (by decide +kernel) zc_4 zSh_19 (by decide) rfl lf_X4_27 rfl rfl <|
  WP.idiv (pc2 := 24) rfl (by decide +kernel) f8.2.1.1 f8.2.1.2 <|
  WP.iadd (pc2 := 25) rfl (by decide +kernel) f8.2.2.1 <|
  WP.istore (pc2 := 27) (i := 5) rfl (by decide +kernel) (by decide) <|
  WP.iload (pc2 := 29) (i := 5) rfl (by decide +kernel) rfl <|
  WP.if_lt (pc2 := 32) (off := 31) (tgt := 60) rfl (by decide +kernel) (by decide) (fun h4 => have f5 := f8.2.2.2.1 h4
  WP.vret (by decide +kernel) rfl ⟨rfl, rfl, f5⟩) (fun h4 => have f6 := f8.2.2.2.2 h4
  WP.iload (pc2 := 34) (i := 5) rfl (by decide +kernel) rfl <|
  WP.aload_n (pc2 := 35) (i := 1) rfl (by decide +kernel) rfl <|
  WP.alen (pc2 := 36) rfl (by decide +kernel) zSh_23 (by decide) (by decide) rfl <|
  WP.icmp_ge (pc2 := 39) (off := 24) (tgt := 60) rfl (by decide +kernel) (by decide) (fun h1 => have f2 := f6.1 h1
  WP.vret (by decide +kernel) rfl ⟨rfl, rfl, f2⟩) (fun h1 => have f3 := f6.2 h1
  WP.aload_n (pc2 := 40) (i := 1) rfl (by decide +kernel) rfl <|
  WP.iload (pc2 := 42) (i := 5) rfl (by decide +kernel) rfl <|
  WP.dup2 (pc2 := 43) rfl (by decide +kernel) <|
  WP.laload (pc2 := 44) rfl (by decide +kernel) zSh_23 rfl f3.1 rfl <|
  WP.lconst (pc2 := 45) (x := 1) (i := 1) rfl rfl (by decide +kernel) <|
  WP.iload_n (pc2 := 46) (i := 3) rfl (by decide +kernel) rfl <|
  WP.bipush (pc2 := 48) (x := 20) rfl (by decide +kernel) ⟨by decide +kernel, by decide⟩ <|
  WP.imul (pc2 := 49) rfl (by decide +kernel) f3.2.1 <|
  WP.iload (pc2 := 51) (i := 4) rfl (by decide +kernel) rfl <|
  WP.aload_n (pc2 := 52) (i := 0) rfl (by decide +kernel) rfl <|
  WP.getI (pc2 := 55) rfl (by decide +kernel) zc_4 zSh_19 (by decide) rfl lf_X4_27 rfl rfl <|
  WP.irem (pc2 := 56) rfl (by decide +kernel) f3.2.2.1.1 f3.2.2.1.2 <|
  WP.iadd (pc2 := 57) rfl (by decide +kernel) f3.2.2.2.1 <|
  WP.lshl (pc2 := 58) rfl (by decide +kernel) <|
  WP.lor (pc2 := 59) rfl (by decide +kernel) <|
  WP.lastore (pc2 := 60) rfl (by decide +kernel) zSh_23 rfl f3.2.2.2.2.1 <|
  WP.vret (by decide +kernel) rfl ⟨rfl, rfl, f3.2.2.2.2.2⟩))) (fun h7 => have f9 := f12.2 h7
  WP.vret (by decide +kernel) rfl ⟨rfl, rfl, f9⟩)))
set_option maxRecDepth 100000 in
set_option maxHeartbeats 4000000 in
theorem GX4_isReached {hi : zI} {hr : zR} {P : Int → Prop} (hR : RSc hr) (l1 : Int) (l2 : Int) (l3 : Int) 
    (F : (l3 < 0 → P 0) ∧ (0 ≤ l3 → ((0 < hi 19 0 7 → ((zInR (l1 * 16)) ∧ ((0 ≤ l3 ∧ 0 < hi 19 0 7) ∧ ((zInR ((l1 * 16) + (l3 / (hi 19 0 7)))) ∧ (((l1 * 16) + (l3 / (hi 19 0 7)) < 0 → P 0) ∧ (0 ≤ (l1 * 16) + (l3 / (hi 19 0 7)) → (((l1 * 16) + (l3 / (hi 19 0 7)) < 4816 → ((0 ≤ (l1 * 16) + (l3 / (hi 19 0 7)) ∧ (l1 * 16) + (l3 / (hi 19 0 7)) < 4816) ∧ ((zInR (l2 * 20)) ∧ ((0 ≤ l3 ∧ 0 < hi 19 0 7) ∧ ((zInR ((l2 * 20) + (l3 % (hi 19 0 7)))) ∧ ((zlcmp (zland (zlushr (hi 20 0 ((l1 * 16) + (l3 / (hi 19 0 7)))) ((l2 * 20) + (l3 % (hi 19 0 7)))) 1) 0 = 0 → P 0) ∧ (zlcmp (zland (zlushr (hi 20 0 ((l1 * 16) + (l3 / (hi 19 0 7)))) ((l2 * 20) + (l3 % (hi 19 0 7)))) 1) 0 ≠ 0 → P 1))))))) ∧ (4816 ≤ (l1 * 16) + (l3 / (hi 19 0 7)) → P 0)))))))) ∧ (hi 19 0 7 ≤ 0 → P 0)))) :
    W0i mX4_isReached [.inr (some (19, 0)), .inl l1, .inl l2, .inl l3] hi hr P :=
  WPm.of rfl (show WP mX4_isReached 0 [some (.inr (some (19, 0))), some (.inl l1), some (.inl l2), some (.inl l3), none] [] hi hr (zQ0i hi hr P) from
  WP.iload_n (pc2 := 1) (i := 3) rfl (by decide +kernel) rfl <|
  WP.if_lt (pc2 := 4) (off := 10) (tgt := 11) rfl (by decide +kernel) (by decide) (fun h13 => have f14 := F.1 h13
  WP.iconst (pc2 := 12) (x := 0) rfl (by decide +kernel) (by decide) <|
  WP.zret (by decide +kernel) rfl (by decide) (fun hx => ⟨_, rfl, hx, rfl, rfl, f14⟩)) (fun h13 => have f15 := F.2 h13
  WP.aload_n (pc2 := 5) (i := 0) rfl (by decide +kernel) rfl <|
  WP.getI (pc2 := 8) rfl (by decide +kernel) zc_4 zSh_19 (by decide) rfl lf_X4_27 rfl rfl <|
  WP.if_gt (pc2 := 11) (off := 5) (tgt := 13) rfl (by decide +kernel) (by decide) (fun h10 => have f11 := f15.1 h10
  WP.iload_n (pc2 := 14) (i := 1) rfl (by decide +kernel) rfl <|
  WP.bipush (pc2 := 16) (x := 16) rfl (by decide +kernel) ⟨by decide +kernel, by decide⟩ <|
  WP.imul (pc2 := 17) rfl (by decide +kernel) f11.1 <|
  WP.iload_n (pc2 := 18) (i := 3) rfl (by decide +kernel) rfl <|
  WP.aload_n (pc2 := 19) (i := 0) rfl (by decide +kernel) rfl <|
  WP.getI (pc2 := 22) rfl (by decide +kernel) zc_4 zSh_19 (by decide) rfl lf_X4_27 rfl rfl <|
  WP.idiv (pc2 := 23) rfl (by decide +kernel) f11.2.1.1 f11.2.1.2 <|
  WP.iadd (pc2 := 24) rfl (by decide +kernel) f11.2.2.1 <|
  WP.istore (pc2 := 26) (i := 4) rfl (by decide +kernel) (by decide) <|
  WP.iload (pc2 := 28) (i := 4) rfl (by decide +kernel) rfl <|
  WP.if_lt (pc2 := 31) (off := 13) (tgt := 41) rfl (by decide +kernel) (by decide) (fun h7 => have f8 := f11.2.2.2.1 h7
  WP.iconst (pc2 := 42) (x := 0) rfl (by decide +kernel) (by decide) <|
  WP.zret (by decide +kernel) rfl (by decide) (fun hx => ⟨_, rfl, hx, rfl, rfl, f8⟩)) (fun h7 => have f9 := f11.2.2.2.2 h7
  WP.iload (pc2 := 33) (i := 4) rfl (by decide +kernel) rfl <|
  WP.aload_n (pc2 := 34) (i := 0) rfl (by decide +kernel) rfl <|
  WP.getR (pc2 := 37) rfl (by decide +kernel) zc_4 zSh_19 (by decide) rfl lf_X4_9 rfl (rs_19_0 hR) <|
  WP.alen (pc2 := 38) rfl (by decide +kernel) zSh_20 (by decide) (by decide) rfl <|
  WP.icmp_lt (pc2 := 41) (off := 5) (tgt := 43) rfl (by decide +kernel) (by decide) (fun h4 => have f5 := f9.1 h4
  WP.aload_n (pc2 := 44) (i := 0) rfl (by decide +kernel) rfl <|
  WP.getR (pc2 := 47) rfl (by decide +kernel) zc_4 zSh_19 (by decide) rfl lf_X4_9 rfl (rs_19_0 hR) <|
  WP.iload (pc2 := 49) (i := 4) rfl (by decide +kernel) rfl <|
  WP.laload (pc2 := 50) rfl (by decide +kernel) zSh_20 rfl f5.1 rfl <|
  WP.iload_n (pc2 := 51) (i := 2) rfl (by decide +kernel) rfl <|
  WP.bipush (pc2 := 53) (x := 20) rfl (by decide +kernel) ⟨by decide +kernel, by decide⟩ <|
  WP.imul (pc2 := 54) rfl (by decide +kernel) f5.2.1 <|
  WP.iload_n (pc2 := 55) (i := 3) rfl (by decide +kernel) rfl <|
  WP.aload_n (pc2 := 56) (i := 0) rfl (by decide +kernel) rfl <|
  WP.getI (pc2 := 59) rfl (by decide +kernel) zc_4 zSh_19 (by decide) rfl lf_X4_27 rfl rfl <|
  WP.irem (pc2 := 60) rfl (by decide +kernel) f5.2.2.1.1 f5.2.2.1.2 <|
  WP.iadd (pc2 := 61) rfl (by decide +kernel) f5.2.2.2.1 <|
  WP.lushr (pc2 := 62) rfl (by decide +kernel) <|
  WP.lconst (pc2 := 63) (x := 1) (i := 1) rfl rfl (by decide +kernel) <|
  WP.land (pc2 := 64) rfl (by decide +kernel) <|
  WP.lconst (pc2 := 65) (x := 0) (i := 0) rfl rfl (by decide +kernel) <|
  WP.lcmp (pc2 := 66) rfl (by decide +kernel) <|
  WP.if_eq (pc2 := 69) (off := 7) (tgt := 73) rfl (by decide +kernel) (by decide) (fun h1 => have f2 := f5.2.2.2.2.1 h1
  WP.iconst (pc2 := 74) (x := 0) rfl (by decide +kernel) (by decide) <|
  WP.zret (by decide +kernel) rfl (by decide) (fun hx => ⟨_, rfl, hx, rfl, rfl, f2⟩)) (fun h1 => have f3 := f5.2.2.2.2.2 h1
  WP.iconst (pc2 := 70) (x := 1) rfl (by decide +kernel) (by decide) <|
  WP.goto (off := 4) (tgt := 74) (by decide +kernel) (by decide) <|
  WP.zret (by decide +kernel) rfl (by decide) (fun hx => ⟨_, rfl, hx, rfl, rfl, f3⟩))) (fun h4 => have f6 := f9.2 h4
  WP.iconst (pc2 := 42) (x := 0) rfl (by decide +kernel) (by decide) <|
  WP.zret (by decide +kernel) rfl (by decide) (fun hx => ⟨_, rfl, hx, rfl, rfl, f6⟩)))) (fun h10 => have f12 := f15.2 h10
  WP.iconst (pc2 := 12) (x := 0) rfl (by decide +kernel) (by decide) <|
  WP.zret (by decide +kernel) rfl (by decide) (fun hx => ⟨_, rfl, hx, rfl, rfl, f12⟩))))
