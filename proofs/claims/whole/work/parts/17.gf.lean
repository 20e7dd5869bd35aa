set_option maxRecDepth 100000 in
set_option maxHeartbeats 4000000 in
theorem GX12_feed {hi : zI} {hr : zR} {P : Int → zI → Prop} (l1 : Int) (l2 : Int) (l3 : Int) (l4 : Int) (l5 : Int) 
    (F : (zInR ((hi 37 0 2) + 20)) ∧ (((hi 37 0 2) + 20 ≤ 400 → (W1v mX12_put [.inr (some (37, 0)), .inl l1] hi hr (fun (hi1 : zI) => W1v mX12_put [.inr (some (37, 0)), .inl l2] hi1 hr (fun (hi2 : zI) => W1v mX12_put [.inr (some (37, 0)), .inl l3] hi2 hr (fun (hi3 : zI) => W1v mX12_put [.inr (some (37, 0)), .inl l4] hi3 hr (fun (hi4 : zI) => W1v mX12_put [.inr (some (37, 0)), .inl l5] hi4 hr (fun (hi5 : zI) => P (hi5 37 0 2) hi5))))))) ∧ (400 < (hi 37 0 2) + 20 → (P (-1) hi)))) :
    W1i mX12_feed [.inr (some (37, 0)), .inl l1, .inl l2, .inl l3, .inl l4, .inl l5] hi hr P :=
  WPm.of rfl (show WP mX12_feed 0 [some (.inr (some (37, 0))), some (.inl l1), some (.inl l2), some (.inl l3), some (.inl l4), some (.inl l5)] [] hi hr (zQ1i hr P) from
  WP.aload_n (pc2 := 1) (i := 0) rfl (by decide +kernel) rfl <|
  WP.getI (pc2 := 4) rfl (by decide +kernel) zc_12 zSh_37 (by decide) rfl lf_X12_161 rfl rfl <|
  WP.bipush (pc2 := 6) (x := 20) rfl (by decide +kernel) ⟨by decide +kernel, by decide⟩ <|
  WP.iadd (pc2 := 7) rfl (by decide +kernel) F.1 <|
  WP.sipush (pc2 := 10) (x := 400) rfl (by decide +kernel) ⟨by decide +kernel, by decide⟩ <|
  WP.icmp_le (pc2 := 13) (off := 5) (tgt := 15) rfl (by decide +kernel) (by decide) (fun h11 => have f12 := F.2.1 h11
  WP.aload_n (pc2 := 16) (i := 0) rfl (by decide +kernel) rfl <|
  WP.iload_n (pc2 := 17) (i := 1) rfl (by decide +kernel) rfl <|
  WP.callV (y := mX12_feed) (index := 164) (pc2 := 20) (y' := mX12_put) (vs := [.inl l1]) rfl (by decide +kernel) okX12_put ⟨by decide, by decide⟩ ⟨lm_X12_164, ivX12_put⟩ zSh_37 zc_12 (Nat.le_of_ble_eq_true rfl) ⟨rfl, rfl⟩ rfl (WP.c1v f12 (fun hi1 f10 =>
  WP.aload_n (pc2 := 21) (i := 0) rfl (by decide +kernel) rfl <|
  WP.iload_n (pc2 := 22) (i := 2) rfl (by decide +kernel) rfl <|
  WP.callV (y := mX12_feed) (index := 164) (pc2 := 25) (y' := mX12_put) (vs := [.inl l2]) rfl (by decide +kernel) okX12_put ⟨by decide, by decide⟩ ⟨lm_X12_164, ivX12_put⟩ zSh_37 zc_12 (Nat.le_of_ble_eq_true rfl) ⟨rfl, rfl⟩ rfl (WP.c1v f10 (fun hi2 f9 =>
  WP.aload_n (pc2 := 26) (i := 0) rfl (by decide +kernel) rfl <|
  WP.iload_n (pc2 := 27) (i := 3) rfl (by decide +kernel) rfl <|
  WP.callV (y := mX12_feed) (index := 164) (pc2 := 30) (y' := mX12_put) (vs := [.inl l3]) rfl (by decide +kernel) okX12_put ⟨by decide, by decide⟩ ⟨lm_X12_164, ivX12_put⟩ zSh_37 zc_12 (Nat.le_of_ble_eq_true rfl) ⟨rfl, rfl⟩ rfl (WP.c1v f9 (fun hi3 f8 =>
  WP.aload_n (pc2 := 31) (i := 0) rfl (by decide +kernel) rfl <|
  WP.iload (pc2 := 33) (i := 4) rfl (by decide +kernel) rfl <|
  WP.callV (y := mX12_feed) (index := 164) (pc2 := 36) (y' := mX12_put) (vs := [.inl l4]) rfl (by decide +kernel) okX12_put ⟨by decide, by decide⟩ ⟨lm_X12_164, ivX12_put⟩ zSh_37 zc_12 (Nat.le_of_ble_eq_true rfl) ⟨rfl, rfl⟩ rfl (WP.c1v f8 (fun hi4 f7 =>
  WP.aload_n (pc2 := 37) (i := 0) rfl (by decide +kernel) rfl <|
  WP.iload (pc2 := 39) (i := 5) rfl (by decide +kernel) rfl <|
  WP.callV (y := mX12_feed) (index := 164) (pc2 := 42) (y' := mX12_put) (vs := [.inl l5]) rfl (by decide +kernel) okX12_put ⟨by decide, by decide⟩ ⟨lm_X12_164, ivX12_put⟩ zSh_37 zc_12 (Nat.le_of_ble_eq_true rfl) ⟨rfl, rfl⟩ rfl (WP.c1v f7 (fun hi5 f6 =>
  WP.aload_n (pc2 := 43) (i := 0) rfl (by decide +kernel) rfl <|
  WP.getI (pc2 := 46) rfl (by decide +kernel) zc_12 zSh_37 (by decide) rfl lf_X12_161 rfl rfl <|
  WP.iret (by decide +kernel) rfl (fun hx => ⟨_, rfl, hx, rfl, f6⟩)))))))))))) (fun h11 => have f13 := F.2.2 h11
  WP.iconst (pc2 := 14) (x := -1) rfl (by decide +kernel) (by decide) <|
  WP.iret (by decide +kernel) rfl (fun hx => ⟨_, rfl, hx, rfl, f13⟩)))
set_option maxRecDepth 100000 in
set_option maxHeartbeats 4000000 in
theorem GX12_put {hi : zI} {hr : zR} {P : zI → Prop} (l1 : Int) 
    (F : WP mX12_put 3 [some (.inr (some (37, 0))), some (.inl l1), some (.inl 24)] [] hi hr (zQ1v hr P)) :
    W1v mX12_put [.inr (some (37, 0)), .inl l1] hi hr P :=
  WPm.of rfl (show WP mX12_put 0 [some (.inr (some (37, 0))), some (.inl l1), none] [] hi hr (zQ1v hr P) from
  WP.bipush (pc2 := 2) (x := 24) rfl (by decide +kernel) ⟨by decide +kernel, by decide⟩ <|
  WP.istore_n (pc2 := 3) (i := 2) rfl (by decide +kernel) (by decide) <|
  F)

set_option maxRecDepth 100000 in
set_option maxHeartbeats 4000000 in
theorem GX12_put_3 {hi : zI} {hr : zR} {P : zI → Prop} (hM : RSm hr) (l1 : Int) (a2 : Int) 
    (F : (a2 < 0 → P hi) ∧ (0 ≤ a2 → ((0 ≤ hi 37 0 2 ∧ hi 37 0 2 < 400) ∧ ((zInR ((hi 37 0 2) + 1)) ∧ ((zInR (a2 + (-8))) ∧ (WP mX12_put 3 [some (.inr (some (37, 0))), some (.inl l1), some (.inl (a2 + (-8)))] [] (zup (zup hi 38 0 (hi 37 0 2) (zi2b (zshr l1 a2))) 37 0 2 ((hi 37 0 2) + 1)) hr (zQ1v hr P))))))) :
    WP mX12_put 3 [some (.inr (some (37, 0))), some (.inl l1), some (.inl a2)] [] hi hr (zQ1v hr P) :=
  WP.iload_n (pc2 := 4) (i := 2) rfl (by decide +kernel) rfl <|
  WP.if_lt (pc2 := 7) (off := 32) (tgt := 36) rfl (by decide +kernel) (by decide) (fun h1 => have f2 := F.1 h1
  WP.vret (by decide +kernel) rfl ⟨rfl, rfl, f2⟩) (fun h1 => have f3 := F.2 h1
  WP.aload_n (pc2 := 8) (i := 0) rfl (by decide +kernel) rfl <|
  WP.getR (pc2 := 11) rfl (by decide +kernel) zc_12 zSh_37 (by decide) rfl lf_X12_13 rfl (rs_37_1 hM) <|
  WP.aload_n (pc2 := 12) (i := 0) rfl (by decide +kernel) rfl <|
  WP.getI (pc2 := 15) rfl (by decide +kernel) zc_12 zSh_37 (by decide) rfl lf_X12_161 rfl rfl <|
  WP.iload_n (pc2 := 16) (i := 1) rfl (by decide +kernel) rfl <|
  WP.iload_n (pc2 := 17) (i := 2) rfl (by decide +kernel) rfl <|
  WP.ishr (pc2 := 18) rfl (by decide +kernel) <|
  WP.i2b (pc2 := 19) rfl (by decide +kernel) <|
  WP.bastore (pc2 := 20) rfl (by decide +kernel) zSh_38 (Or.inl ⟨rfl, zi2b_rng _⟩) rfl f3.1 <|
  WP.aload_n (pc2 := 21) (i := 0) rfl (by decide +kernel) rfl <|
  WP.dup (pc2 := 22) rfl (by decide +kernel) <|
  WP.getI (pc2 := 25) rfl (by decide +kernel) zc_12 zSh_37 (by decide) rfl lf_X12_161 rfl (zup_k _ _ _ _ _ _ (by decide)) <|
  WP.iconst (pc2 := 26) (x := 1) rfl (by decide +kernel) (by decide) <|
  WP.iadd (pc2 := 27) rfl (by decide +kernel) f3.2.1 <|
  WP.putI (pc2 := 30) rfl (by decide +kernel) zc_12 zSh_37 (by decide) rfl lf_X12_161 rfl (z_int _) rfl <|
  WP.iinc (pc2 := 33) (i := 2) (d := -8) rfl (by decide +kernel) rfl f3.2.2.1 <|
  WP.goto (off := -30) (tgt := 3) (by decide +kernel) (by decide) <|
  f3.2.2.2)
set_option maxRecDepth 100000 in
set_option maxHeartbeats 4000000 in
theorem GX12_back {hi : zI} {hr : zR} {P : Int → zI → Prop} (l1 : Int) 
    (F : (l1 < 0 → (P (-1) hi)) ∧ (0 ≤ l1 → ((l1 ≤ hi 37 0 2 → ((zInR ((hi 37 0 2) - l1)) ∧ (P ((hi 37 0 2) - l1) (zup hi 37 0 2 ((hi 37 0 2) - l1))))) ∧ (hi 37 0 2 < l1 → (P (-1) hi))))) :
    W1i mX12_back [.inr (some (37, 0)), .inl l1] hi hr P :=
  WPm.of rfl (show WP mX12_back 0 [some (.inr (some (37, 0))), some (.inl l1)] [] hi hr (zQ1i hr P) from
  WP.iload_n (pc2 := 1) (i := 1) rfl (by decide +kernel) rfl <|
  WP.if_lt (pc2 := 4) (off := 11) (tgt := 12) rfl (by decide +kernel) (by decide) (fun h4 => have f5 := F.1 h4
  WP.iconst (pc2 := 13) (x := -1) rfl (by decide +kernel) (by decide) <|
  WP.iret (by decide +kernel) rfl (fun hx => ⟨_, rfl, hx, rfl, f5⟩)) (fun h4 => have f6 := F.2 h4
  WP.iload_n (pc2 := 5) (i := 1) rfl (by decide +kernel) rfl <|
  WP.aload_n (pc2 := 6) (i := 0) rfl (by decide +kernel) rfl <|
  WP.getI (pc2 := 9) rfl (by decide +kernel) zc_12 zSh_37 (by decide) rfl lf_X12_161 rfl rfl <|
  WP.icmp_le (pc2 := 12) (off := 5) (tgt := 14) rfl (by decide +kernel) (by decide) (fun h1 => have f2 := f6.1 h1
  WP.aload_n (pc2 := 15) (i := 0) rfl (by decide +kernel) rfl <|
  WP.dup (pc2 := 16) rfl (by decide +kernel) <|
  WP.getI (pc2 := 19) rfl (by decide +kernel) zc_12 zSh_37 (by decide) rfl lf_X12_161 rfl rfl <|
  WP.iload_n (pc2 := 20) (i := 1) rfl (by decide +kernel) rfl <|
  WP.isub (pc2 := 21) rfl (by decide +kernel) f2.1 <|
  WP.putI (pc2 := 24) rfl (by decide +kernel) zc_12 zSh_37 (by decide) rfl lf_X12_161 rfl (z_int _) rfl <|
  WP.aload_n (pc2 := 25) (i := 0) rfl (by decide +kernel) rfl <|
  WP.getI (pc2 := 28) rfl (by decide +kernel) zc_12 zSh_37 (by decide) rfl lf_X12_161 rfl (zup_s _ _ _ _ _) <|
  WP.iret (by decide +kernel) rfl (fun hx => ⟨_, rfl, hx, rfl, f2.2⟩)) (fun h1 => have f3 := f6.2 h1
  WP.iconst (pc2 := 13) (x := -1) rfl (by decide +kernel) (by decide) <|
  WP.iret (by decide +kernel) rfl (fun hx => ⟨_, rfl, hx, rfl, f3⟩))))
set_option maxRecDepth 100000 in
set_option maxHeartbeats 4000000 in
theorem GX12_sort {hi : zI} {hr : zR} {P : Int → Prop} (l0 : Int) 
    (F : (l0 ≠ 35 → ((l0 ≠ 46 → ((l0 ≠ 83 → ((l0 ≠ 80 → (P (-1))) ∧ (l0 = 80 → P 3))) ∧ (l0 = 83 → P 2))) ∧ (l0 = 46 → P 1))) ∧ (l0 = 35 → P 0)) :
    W0i mX12_sort [.inl l0] hi hr P :=
  WPm.of rfl (show WP mX12_sort 0 [some (.inl l0)] [] hi hr (zQ0i hi hr P) from
  WP.iload_n (pc2 := 1) (i := 0) rfl (by decide +kernel) rfl <|
  WP.bipush (pc2 := 3) (x := 35) rfl (by decide +kernel) ⟨by decide +kernel, by decide⟩ <|
  WP.icmp_ne (pc2 := 6) (off := 7) (tgt := 10) rfl (by decide +kernel) (by decide) (fun h10 => have f11 := F.1 h10
  WP.iload_n (pc2 := 11) (i := 0) rfl (by decide +kernel) rfl <|
  WP.bipush (pc2 := 13) (x := 46) rfl (by decide +kernel) ⟨by decide +kernel, by decide⟩ <|
  WP.icmp_ne (pc2 := 16) (off := 7) (tgt := 20) rfl (by decide +kernel) (by decide) (fun h7 => have f8 := f11.1 h7
  WP.iload_n (pc2 := 21) (i := 0) rfl (by decide +kernel) rfl <|
  WP.bipush (pc2 := 23) (x := 83) rfl (by decide +kernel) ⟨by decide +kernel, by decide⟩ <|
  WP.icmp_ne (pc2 := 26) (off := 7) (tgt := 30) rfl (by decide +kernel) (by decide) (fun h4 => have f5 := f8.1 h4
  WP.iload_n (pc2 := 31) (i := 0) rfl (by decide +kernel) rfl <|
  WP.bipush (pc2 := 33) (x := 80) rfl (by decide +kernel) ⟨by decide +kernel, by decide⟩ <|
  WP.icmp_ne (pc2 := 36) (off := 7) (tgt := 40) rfl (by decide +kernel) (by decide) (fun h1 => have f2 := f5.1 h1
  WP.iconst (pc2 := 41) (x := -1) rfl (by decide +kernel) (by decide) <|
  WP.iret (by decide +kernel) rfl (fun hx => ⟨_, rfl, hx, rfl, rfl, f2⟩)) (fun h1 => have f3 := f5.2 h1
  WP.iconst (pc2 := 37) (x := 3) rfl (by decide +kernel) (by decide) <|
  WP.goto (off := 4) (tgt := 41) (by decide +kernel) (by decide) <|
  WP.iret (by decide +kernel) rfl (fun hx => ⟨_, rfl, hx, rfl, rfl, f3⟩))) (fun h4 => have f6 := f8.2 h4
  WP.iconst (pc2 := 27) (x := 2) rfl (by decide +kernel) (by decide) <|
  WP.goto (off := 14) (tgt := 41) (by decide +kernel) (by decide) <|
  WP.iret (by decide +kernel) rfl (fun hx => ⟨_, rfl, hx, rfl, rfl, f6⟩))) (fun h7 => have f9 := f11.2 h7
  WP.iconst (pc2 := 17) (x := 1) rfl (by decide +kernel) (by decide) <|
  WP.goto (off := 24) (tgt := 41) (by decide +kernel) (by decide) <|
  WP.iret (by decide +kernel) rfl (fun hx => ⟨_, rfl, hx, rfl, rfl, f9⟩))) (fun h10 => have f12 := F.2 h10
  WP.iconst (pc2 := 7) (x := 0) rfl (by decide +kernel) (by decide) <|
  WP.goto (off := 34) (tgt := 41) (by decide +kernel) (by decide) <|
  WP.iret (by decide +kernel) rfl (fun hx => ⟨_, rfl, hx, rfl, rfl, f12⟩)))
set_option maxRecDepth 100000 in
set_option maxHeartbeats 4000000 in
theorem GX12_read {hi : zI} {hr : zR} {P : Int → zI → Prop}  
    (F : W1v mX12_cuts [.inr (some (37, 0)), .inl (hi 37 0 2)] (zup hi 37 0 2 0) hr (fun (hi1 : zI) => (hi1 37 0 3 ≤ 0 → (WP mX12_read 34 [some (.inr (some (37, 0))), some (.inl (hi 37 0 2)), some (.inl 0), some (.inl 0), some (.inl 0), none, none] [] hi1 hr (zQ1i hr P))) ∧ (0 < hi1 37 0 3 → (P (hi1 37 0 3) hi1)))) :
    W1i mX12_read [.inr (some (37, 0))] hi hr P :=
  WPm.of rfl (show WP mX12_read 0 [some (.inr (some (37, 0))), none, none, none, none, none, none] [] hi hr (zQ1i hr P) from
  WP.aload_n (pc2 := 1) (i := 0) rfl (by decide +kernel) rfl <|
  WP.getI (pc2 := 4) rfl (by decide +kernel) zc_12 zSh_37 (by decide) rfl lf_X12_161 rfl rfl <|
  WP.istore_n (pc2 := 5) (i := 1) rfl (by decide +kernel) (by decide) <|
  WP.aload_n (pc2 := 6) (i := 0) rfl (by decide +kernel) rfl <|
  WP.iconst (pc2 := 7) (x := 0) rfl (by decide +kernel) (by decide) <|
  WP.putI (pc2 := 10) rfl (by decide +kernel) zc_12 zSh_37 (by decide) rfl lf_X12_161 rfl (z_int _) rfl <|
  WP.aload_n (pc2 := 11) (i := 0) rfl (by decide +kernel) rfl <|
  WP.iload_n (pc2 := 12) (i := 1) rfl (by decide +kernel) rfl <|
  WP.callV (y := mX12_read) (index := 181) (pc2 := 15) (y' := mX12_cuts) (vs := [.inl (hi 37 0 2)]) rfl (by decide +kernel) okX12_cuts ⟨by decide, by decide⟩ ⟨lm_X12_181, ivX12_cuts⟩ zSh_37 zc_12 (Nat.le_of_ble_eq_true rfl) ⟨rfl, rfl⟩ rfl (WP.c1v F (fun hi1 f5 =>
  WP.aload_n (pc2 := 16) (i := 0) rfl (by decide +kernel) rfl <|
  WP.getI (pc2 := 19) rfl (by decide +kernel) zc_12 zSh_37 (by decide) rfl lf_X12_168 rfl rfl <|
  WP.if_le (pc2 := 22) (off := 8) (tgt := 27) rfl (by decide +kernel) (by decide) (fun h2 => have f3 := f5.1 h2
  WP.iconst (pc2 := 28) (x := 0) rfl (by decide +kernel) (by decide) <|
  WP.istore_n (pc2 := 29) (i := 2) rfl (by decide +kernel) (by decide) <|
  WP.iconst (pc2 := 30) (x := 0) rfl (by decide +kernel) (by decide) <|
  WP.istore_n (pc2 := 31) (i := 3) rfl (by decide +kernel) (by decide) <|
  WP.iconst (pc2 := 32) (x := 0) rfl (by decide +kernel) (by decide) <|
  WP.istore (pc2 := 34) (i := 4) rfl (by decide +kernel) (by decide) <|
  f3) (fun h2 => have f4 := f5.2 h2
  WP.aload_n (pc2 := 23) (i := 0) rfl (by decide +kernel) rfl <|
  WP.getI (pc2 := 26) rfl (by decide +kernel) zc_12 zSh_37 (by decide) rfl lf_X12_168 rfl rfl <|
  WP.iret (by decide +kernel) rfl (fun hx => ⟨_, rfl, hx, rfl, f4⟩)))))

set_option maxRecDepth 100000 in
set_option maxHeartbeats 4000000 in
theorem GX12_read_46 {hi : zI} {hr : zR} {P : Int → zI → Prop} (hM : RSm hr) (a1 : Int) (a2 : Int) (a3 : Int) (a4 : Int) (a5 : Int) (u6 : Option zV) 
    (F : (hi 37 0 14 ≤ a5 → ((zInR (a4 + 1)) ∧ (WP mX12_read 34 [some (.inr (some (37, 0))), some (.inl a1), some (.inl a2), some (.inl a3), some (.inl (a4 + 1)), some (.inl a5), u6] [] hi hr (zQ1i hr P)))) ∧ (a5 < hi 37 0 14 → ((zInR (16 * a4)) ∧ ((zInR (256 + (16 * a4))) ∧ ((zInR ((256 + (16 * a4)) + a5)) ∧ ((0 ≤ (256 + (16 * a4)) + a5 ∧ (256 + (16 * a4)) + a5 < 512) ∧ ((hi 39 0 ((256 + (16 * a4)) + a5) ≠ 3 → ((hi 39 0 ((256 + (16 * a4)) + a5) ≠ 2 → ((zInR (a5 + 1)) ∧ (WP mX12_read 46 [some (.inr (some (37, 0))), some (.inl a1), some (.inl a2), some (.inl a3), some (.inl a4), some (.inl (a5 + 1)), some (.inl (hi 39 0 ((256 + (16 * a4)) + a5)))] [] hi hr (zQ1i hr P)))) ∧ (hi 39 0 ((256 + (16 * a4)) + a5) = 2 → ((zInR (a3 + 1)) ∧ ((zInR (a5 + 1)) ∧ (WP mX12_read 46 [some (.inr (some (37, 0))), some (.inl a1), some (.inl a2), some (.inl (a3 + 1)), some (.inl a4), some (.inl (a5 + 1)), some (.inl (hi 39 0 ((256 + (16 * a4)) + a5)))] [] hi hr (zQ1i hr P))))))) ∧ (hi 39 0 ((256 + (16 * a4)) + a5) = 3 → ((zInR (a2 + 1)) ∧ ((hi 39 0 ((256 + (16 * a4)) + a5) ≠ 2 → ((zInR (a5 + 1)) ∧ (WP mX12_read 46 [some (.inr (some (37, 0))), some (.inl a1), some (.inl (a2 + 1)), some (.inl a3), some (.inl a4), some (.inl (a5 + 1)), some (.inl (hi 39 0 ((256 + (16 * a4)) + a5)))] [] hi hr (zQ1i hr P)))) ∧ (hi 39 0 ((256 + (16 * a4)) + a5) = 2 → ((zInR (a3 + 1)) ∧ ((zInR (a5 + 1)) ∧ (WP mX12_read 46 [some (.inr (some (37, 0))), some (.inl a1), some (.inl (a2 + 1)), some (.inl (a3 + 1)), some (.inl a4), some (.inl (a5 + 1)), some (.inl (hi 39 0 ((256 + (16 * a4)) + a5)))] [] hi hr (zQ1i hr P))))))))))))))) :
    WP mX12_read 46 [some (.inr (some (37, 0))), some (.inl a1), some (.inl a2), some (.inl a3), some (.inl a4), some (.inl a5), u6] [] hi hr (zQ1i hr P) :=
  WP.iload (pc2 := 48) (i := 5) rfl (by decide +kernel) rfl <|
  WP.aload_n (pc2 := 49) (i := 0) rfl (by decide +kernel) rfl <|
  WP.getI (pc2 := 52) rfl (by decide +kernel) zc_12 zSh_37 (by decide) rfl lf_X12_174 rfl rfl <|
  WP.icmp_ge (pc2 := 55) (off := 46) (tgt := 98) rfl (by decide +kernel) (by decide) (fun h73 => have f74 := F.1 h73
  WP.iinc (pc2 := 101) (i := 4) (d := 1) rfl (by decide +kernel) rfl f74.1 <|
  WP.goto (off := -67) (tgt := 34) (by decide +kernel) (by decide) <|
  f74.2) (fun h73 => have f75 := F.2 h73
  WP.aload_n (pc2 := 56) (i := 0) rfl (by decide +kernel) rfl <|
  WP.getR (pc2 := 59) rfl (by decide +kernel) zc_12 zSh_37 (by decide) rfl lf_X12_20 rfl (rs_37_7 hM) <|
  WP.sipush (pc2 := 62) (x := 256) rfl (by decide +kernel) ⟨by decide +kernel, by decide⟩ <|
  WP.bipush (pc2 := 64) (x := 16) rfl (by decide +kernel) ⟨by decide +kernel, by decide⟩ <|
  WP.iload (pc2 := 66) (i := 4) rfl (by decide +kernel) rfl <|
  WP.imul (pc2 := 67) rfl (by decide +kernel) f75.1 <|
  WP.iadd (pc2 := 68) rfl (by decide +kernel) f75.2.1 <|
  WP.iload (pc2 := 70) (i := 5) rfl (by decide +kernel) rfl <|
  WP.iadd (pc2 := 71) rfl (by decide +kernel) f75.2.2.1 <|
  WP.iaload (pc2 := 72) rfl (by decide +kernel) zSh_39 rfl f75.2.2.2.1 rfl <|
  WP.istore (pc2 := 74) (i := 6) rfl (by decide +kernel) (by decide) <|
  WP.iload (pc2 := 76) (i := 6) rfl (by decide +kernel) rfl <|
  WP.iconst (pc2 := 77) (x := 3) rfl (by decide +kernel) (by decide) <|
  WP.icmp_ne (pc2 := 80) (off := 6) (tgt := 83) rfl (by decide +kernel) (by decide) (fun h70 => have f71 := f75.2.2.2.2.1 h70
  WP.iload (pc2 := 85) (i := 6) rfl (by decide +kernel) rfl <|
  WP.iconst (pc2 := 86) (x := 2) rfl (by decide +kernel) (by decide) <|
  WP.icmp_ne (pc2 := 89) (off := 6) (tgt := 92) rfl (by decide +kernel) (by decide) (fun h64 => have f65 := f71.1 h64
  WP.iinc (pc2 := 95) (i := 5) (d := 1) rfl (by decide +kernel) rfl f65.1 <|
  WP.goto (off := -49) (tgt := 46) (by decide +kernel) (by decide) <|
  f65.2) (fun h64 => have f66 := f71.2 h64
  WP.iinc (pc2 := 92) (i := 3) (d := 1) rfl (by decide +kernel) rfl f66.1 <|
  WP.iinc (pc2 := 95) (i := 5) (d := 1) rfl (by decide +kernel) rfl f66.2.1 <|
  WP.goto (off := -49) (tgt := 46) (by decide +kernel) (by decide) <|
  f66.2.2)) (fun h70 => have f72 := f75.2.2.2.2.2 h70
  WP.iinc (pc2 := 83) (i := 2) (d := 1) rfl (by decide +kernel) rfl f72.1 <|
  WP.iload (pc2 := 85) (i := 6) rfl (by decide +kernel) rfl <|
  WP.iconst (pc2 := 86) (x := 2) rfl (by decide +kernel) (by decide) <|
  WP.icmp_ne (pc2 := 89) (off := 6) (tgt := 92) rfl (by decide +kernel) (by decide) (fun h67 => have f68 := f72.2.1 h67
  WP.iinc (pc2 := 95) (i := 5) (d := 1) rfl (by decide +kernel) rfl f68.1 <|
  WP.goto (off := -49) (tgt := 46) (by decide +kernel) (by decide) <|
  f68.2) (fun h67 => have f69 := f72.2.2 h67
  WP.iinc (pc2 := 92) (i := 3) (d := 1) rfl (by decide +kernel) rfl f69.1 <|
  WP.iinc (pc2 := 95) (i := 5) (d := 1) rfl (by decide +kernel) rfl f69.2.1 <|
  WP.goto (off := -49) (tgt := 46) (by decide +kernel) (by decide) <|
  f69.2.2)))

set_option maxRecDepth 100000 in
set_option maxHeartbeats 4000000 in
theorem GX12_read_34 {hi : zI} {hr : zR} {P : Int → zI → Prop} (a1 : Int) (a2 : Int) (a3 : Int) (a4 : Int) (u5 : Option zV) (u6 : Option zV) 
    (F : (hi 37 0 13 ≤ a4 → ((a2 = 0 → (P 4 (zup hi 37 0 4 a1))) ∧ (a2 ≠ 0 → ((6 < a2 → (P 4 (zup hi 37 0 4 a1))) ∧ (a2 ≤ 6 → ((a3 ≤ 10 → (W1i mX12_apart [.inr (some (37, 0))] (zup hi 37 0 4 a1) hr (fun (x76 : Int) (hi77 : zI) => (x76 = -1 → (WP mX12_read 164 [some (.inr (some (37, 0))), some (.inl a1), some (.inl a2), some (.inl a3), some (.inl 0), u5, u6] [] (zup (zup (zup hi77 37 0 4 x76) 37 0 5 (hi77 37 0 13)) 37 0 6 (hi77 37 0 14)) hr (zQ1i hr P))) ∧ (x76 ≠ -1 → (P 5 (zup hi77 37 0 4 x76)))))) ∧ (10 < a3 → (P 4 (zup hi 37 0 4 a1))))))))) ∧ (a4 < hi 37 0 13 → (WP mX12_read 46 [some (.inr (some (37, 0))), some (.inl a1), some (.inl a2), some (.inl a3), some (.inl a4), some (.inl 0), u6] [] hi hr (zQ1i hr P)))) :
    WP mX12_read 34 [some (.inr (some (37, 0))), some (.inl a1), some (.inl a2), some (.inl a3), some (.inl a4), u5, u6] [] hi hr (zQ1i hr P) :=
  WP.iload (pc2 := 36) (i := 4) rfl (by decide +kernel) rfl <|
  WP.aload_n (pc2 := 37) (i := 0) rfl (by decide +kernel) rfl <|
  WP.getI (pc2 := 40) rfl (by decide +kernel) zc_12 zSh_37 (by decide) rfl lf_X12_171 rfl rfl <|
  WP.icmp_ge (pc2 := 43) (off := 64) (tgt := 104) rfl (by decide +kernel) (by decide) (fun h91 => have f92 := F.1 h91
  WP.aload_n (pc2 := 105) (i := 0) rfl (by decide +kernel) rfl <|
  WP.iload_n (pc2 := 106) (i := 1) rfl (by decide +kernel) rfl <|
  WP.putI (pc2 := 109) rfl (by decide +kernel) zc_12 zSh_37 (by decide) rfl lf_X12_17 rfl (z_int _) rfl <|
  WP.iload_n (pc2 := 110) (i := 2) rfl (by decide +kernel) rfl <|
  WP.if_eq (pc2 := 113) (off := 15) (tgt := 125) rfl (by decide +kernel) (by decide) (fun h88 => have f89 := f92.1 h88
  WP.iconst (pc2 := 126) (x := 4) rfl (by decide +kernel) (by decide) <|
  WP.iret (by decide +kernel) rfl (fun hx => ⟨_, rfl, hx, rfl, f89⟩)) (fun h88 => have f90 := f92.2 h88
  WP.iload_n (pc2 := 114) (i := 2) rfl (by decide +kernel) rfl <|
  WP.bipush (pc2 := 116) (x := 6) rfl (by decide +kernel) ⟨by decide +kernel, by decide⟩ <|
  WP.icmp_gt (pc2 := 119) (off := 9) (tgt := 125) rfl (by decide +kernel) (by decide) (fun h85 => have f86 := f90.1 h85
  WP.iconst (pc2 := 126) (x := 4) rfl (by decide +kernel) (by decide) <|
  WP.iret (by decide +kernel) rfl (fun hx => ⟨_, rfl, hx, rfl, f86⟩)) (fun h85 => have f87 := f90.2 h85
  WP.iload_n (pc2 := 120) (i := 3) rfl (by decide +kernel) rfl <|
  WP.bipush (pc2 := 122) (x := 10) rfl (by decide +kernel) ⟨by decide +kernel, by decide⟩ <|
  WP.icmp_le (pc2 := 125) (off := 5) (tgt := 127) rfl (by decide +kernel) (by decide) (fun h82 => have f83 := f87.1 h82
  WP.aload_n (pc2 := 128) (i := 0) rfl (by decide +kernel) rfl <|
  WP.aload_n (pc2 := 129) (i := 0) rfl (by decide +kernel) rfl <|
  WP.callV (y := mX12_read) (index := 184) (pc2 := 132) (y' := mX12_apart) (vs := []) rfl (by decide +kernel) okX12_apart ⟨by decide, by decide⟩ ⟨lm_X12_184, ivX12_apart⟩ zSh_37 zc_12 (Nat.le_of_ble_eq_true rfl) ⟨rfl, rfl⟩ rfl (WP.c1i f83 (fun x76 hi77 _ f81 =>
  WP.putI (pc2 := 135) rfl (by decide +kernel) zc_12 zSh_37 (by decide) rfl lf_X12_17 rfl (z_int _) rfl <|
  WP.aload_n (pc2 := 136) (i := 0) rfl (by decide +kernel) rfl <|
  WP.getI (pc2 := 139) rfl (by decide +kernel) zc_12 zSh_37 (by decide) rfl lf_X12_17 rfl (zup_s _ _ _ _ _) <|
  WP.iconst (pc2 := 140) (x := -1) rfl (by decide +kernel) (by decide) <|
  WP.icmp_eq (pc2 := 143) (off := 5) (tgt := 145) rfl (by decide +kernel) (by decide) (fun h78 => have f79 := f81.1 h78
  WP.aload_n (pc2 := 146) (i := 0) rfl (by decide +kernel) rfl <|
  WP.aload_n (pc2 := 147) (i := 0) rfl (by decide +kernel) rfl <|
  WP.getI (pc2 := 150) rfl (by decide +kernel) zc_12 zSh_37 (by decide) rfl lf_X12_171 rfl (zup_f _ _ _ _ _ _ (by decide)) <|
  WP.putI (pc2 := 153) rfl (by decide +kernel) zc_12 zSh_37 (by decide) rfl lf_X12_149 rfl (z_int _) rfl <|
  WP.aload_n (pc2 := 154) (i := 0) rfl (by decide +kernel) rfl <|
  WP.aload_n (pc2 := 155) (i := 0) rfl (by decide +kernel) rfl <|
  WP.getI (pc2 := 158) rfl (by decide +kernel) zc_12 zSh_37 (by decide) rfl lf_X12_174 rfl ((zup_f _ _ _ _ _ _ (by decide)).trans (zup_f _ _ _ _ _ _ (by decide))) <|
  WP.putI (pc2 := 161) rfl (by decide +kernel) zc_12 zSh_37 (by decide) rfl lf_X12_152 rfl (z_int _) rfl <|
  WP.iconst (pc2 := 162) (x := 0) rfl (by decide +kernel) (by decide) <|
  WP.istore (pc2 := 164) (i := 4) rfl (by decide +kernel) (by decide) <|
  f79) (fun h78 => have f80 := f81.2 h78
  WP.iconst (pc2 := 144) (x := 5) rfl (by decide +kernel) (by decide) <|
  WP.iret (by decide +kernel) rfl (fun hx => ⟨_, rfl, hx, rfl, f80⟩))))) (fun h82 => have f84 := f87.2 h82
  WP.iconst (pc2 := 126) (x := 4) rfl (by decide +kernel) (by decide) <|
  WP.iret (by decide +kernel) rfl (fun hx => ⟨_, rfl, hx, rfl, f84⟩))))) (fun h91 => have f93 := F.2 h91
  WP.iconst (pc2 := 44) (x := 0) rfl (by decide +kernel) (by decide) <|
  WP.istore (pc2 := 46) (i := 5) rfl (by decide +kernel) (by decide) <|
  f93)

set_option maxRecDepth 100000 in
set_option maxHeartbeats 4000000 in
theorem GX12_read_164 {hi : zI} {hr : zR} {P : Int → zI → Prop} (hM : RSm hr) (a1 : Int) (a2 : Int) (a3 : Int) (a4 : Int) (u5 : Option zV) (u6 : Option zV) 
    (F : (zInR ((hi 37 0 5) * (hi 37 0 6))) ∧ (((hi 37 0 5) * (hi 37 0 6) ≤ a4 → (W1v mX12_begins [.inr (some (37, 0))] (zup (zup hi 37 0 17 1) 45 0 0 0) hr (fun (hi94 : zI) => P 0 hi94))) ∧ (a4 < (hi 37 0 5) * (hi 37 0 6) → ((0 ≤ a4 ∧ 0 < hi 37 0 6) ∧ ((zInR (16 * (a4 / (hi 37 0 6)))) ∧ ((zInR (256 + (16 * (a4 / (hi 37 0 6))))) ∧ ((0 ≤ a4 ∧ 0 < hi 37 0 6) ∧ ((zInR ((256 + (16 * (a4 / (hi 37 0 6)))) + (a4 % (hi 37 0 6)))) ∧ ((0 ≤ (256 + (16 * (a4 / (hi 37 0 6)))) + (a4 % (hi 37 0 6)) ∧ (256 + (16 * (a4 / (hi 37 0 6)))) + (a4 % (hi 37 0 6)) < 512) ∧ ((0 ≤ a4 ∧ a4 < 512) ∧ ((zInR (a4 + 1)) ∧ (WP mX12_read 164 [some (.inr (some (37, 0))), some (.inl a1), some (.inl a2), some (.inl a3), some (.inl (a4 + 1)), u5, u6] [] (zup hi 39 0 a4 (hi 39 0 ((256 + (16 * (a4 / (hi 37 0 6)))) + (a4 % (hi 37 0 6))))) hr (zQ1i hr P))))))))))))) :
    WP mX12_read 164 [some (.inr (some (37, 0))), some (.inl a1), some (.inl a2), some (.inl a3), some (.inl a4), u5, u6] [] hi hr (zQ1i hr P) :=
  WP.iload (pc2 := 166) (i := 4) rfl (by decide +kernel) rfl <|
  WP.aload_n (pc2 := 167) (i := 0) rfl (by decide +kernel) rfl <|
  WP.getI (pc2 := 170) rfl (by decide +kernel) zc_12 zSh_37 (by decide) rfl lf_X12_149 rfl rfl <|
  WP.aload_n (pc2 := 171) (i := 0) rfl (by decide +kernel) rfl <|
  WP.getI (pc2 := 174) rfl (by decide +kernel) zc_12 zSh_37 (by decide) rfl lf_X12_152 rfl rfl <|
  WP.imul (pc2 := 175) rfl (by decide +kernel) F.1 <|
  WP.icmp_ge (pc2 := 178) (off := 43) (tgt := 218) rfl (by decide +kernel) (by decide) (fun h96 => have f97 := F.2.1 h96
  WP.aload_n (pc2 := 219) (i := 0) rfl (by decide +kernel) rfl <|
  WP.iconst (pc2 := 220) (x := 1) rfl (by decide +kernel) (by decide) <|
  WP.putI (pc2 := 223) rfl (by decide +kernel) zc_12 zSh_37 (by decide) rfl lf_X12_155 rfl (z_int _) rfl <|
  WP.aload_n (pc2 := 224) (i := 0) rfl (by decide +kernel) rfl <|
  WP.getR (pc2 := 227) rfl (by decide +kernel) zc_12 zSh_37 (by decide) rfl lf_X12_40 rfl (rs_37_18 hM) <|
  WP.iconst (pc2 := 228) (x := 0) rfl (by decide +kernel) (by decide) <|
  WP.iconst (pc2 := 229) (x := 0) rfl (by decide +kernel) (by decide) <|
  WP.iastore (pc2 := 230) rfl (by decide +kernel) zSh_45 rfl (by decide) <|
  WP.aload_n (pc2 := 231) (i := 0) rfl (by decide +kernel) rfl <|
  WP.callV (y := mX12_read) (index := 158) (pc2 := 234) (y' := mX12_begins) (vs := []) rfl (by decide +kernel) okX12_begins ⟨by decide, by decide⟩ ⟨lm_X12_158, ivX12_begins⟩ zSh_37 zc_12 (Nat.le_of_ble_eq_true rfl) ⟨rfl, rfl⟩ rfl (WP.c1v f97 (fun hi94 f95 =>
  WP.iconst (pc2 := 235) (x := 0) rfl (by decide +kernel) (by decide) <|
  WP.iret (by decide +kernel) rfl (fun hx => ⟨_, rfl, hx, rfl, f95⟩)))) (fun h96 => have f98 := F.2.2 h96
  WP.aload_n (pc2 := 179) (i := 0) rfl (by decide +kernel) rfl <|
  WP.getR (pc2 := 182) rfl (by decide +kernel) zc_12 zSh_37 (by decide) rfl lf_X12_20 rfl (rs_37_7 hM) <|
  WP.iload (pc2 := 184) (i := 4) rfl (by decide +kernel) rfl <|
  WP.aload_n (pc2 := 185) (i := 0) rfl (by decide +kernel) rfl <|
  WP.getR (pc2 := 188) rfl (by decide +kernel) zc_12 zSh_37 (by decide) rfl lf_X12_20 rfl (rs_37_7 hM) <|
  WP.sipush (pc2 := 191) (x := 256) rfl (by decide +kernel) ⟨by decide +kernel, by decide⟩ <|
  WP.bipush (pc2 := 193) (x := 16) rfl (by decide +kernel) ⟨by decide +kernel, by decide⟩ <|
  WP.iload (pc2 := 195) (i := 4) rfl (by decide +kernel) rfl <|
  WP.aload_n (pc2 := 196) (i := 0) rfl (by decide +kernel) rfl <|
  WP.getI (pc2 := 199) rfl (by decide +kernel) zc_12 zSh_37 (by decide) rfl lf_X12_152 rfl rfl <|
  WP.idiv (pc2 := 200) rfl (by decide +kernel) f98.1.1 f98.1.2 <|
  WP.imul (pc2 := 201) rfl (by decide +kernel) f98.2.1 <|
  WP.iadd (pc2 := 202) rfl (by decide +kernel) f98.2.2.1 <|
  WP.iload (pc2 := 204) (i := 4) rfl (by decide +kernel) rfl <|
  WP.aload_n (pc2 := 205) (i := 0) rfl (by decide +kernel) rfl <|
  WP.getI (pc2 := 208) rfl (by decide +kernel) zc_12 zSh_37 (by decide) rfl lf_X12_152 rfl rfl <|
  WP.irem (pc2 := 209) rfl (by decide +kernel) f98.2.2.2.1.1 f98.2.2.2.1.2 <|
  WP.iadd (pc2 := 210) rfl (by decide +kernel) f98.2.2.2.2.1 <|
  WP.iaload (pc2 := 211) rfl (by decide +kernel) zSh_39 rfl f98.2.2.2.2.2.1 rfl <|
  WP.iastore (pc2 := 212) rfl (by decide +kernel) zSh_39 rfl f98.2.2.2.2.2.2.1 <|
  WP.iinc (pc2 := 215) (i := 4) (d := 1) rfl (by decide +kernel) rfl f98.2.2.2.2.2.2.2.1 <|
  WP.goto (off := -51) (tgt := 164) (by decide +kernel) (by decide) <|
  f98.2.2.2.2.2.2.2.2)
set_option maxRecDepth 100000 in
set_option maxHeartbeats 4000000 in
theorem GX12_place {hi : zI} {hr : zR} {P : Int → Prop}  
    (F : P (hi 37 0 4)) :
    W0i mX12_place [.inr (some (37, 0))] hi hr P :=
  WPm.of rfl (show WP mX12_place 0 [some (.inr (some (37, 0)))] [] hi hr (zQ0i hi hr P) from
  WP.aload_n (pc2 := 1) (i := 0) rfl (by decide +kernel) rfl <|
  WP.getI (pc2 := 4) rfl (by decide +kernel) zc_12 zSh_37 (by decide) rfl lf_X12_17 rfl rfl <|
  WP.iret (by decide +kernel) rfl (fun hx => ⟨_, rfl, hx, rfl, rfl, F⟩))
set_option maxRecDepth 100000 in
set_option maxHeartbeats 4000000 in
theorem GX12_readAt {hi : zI} {hr : zR} {P : Int → Prop} (hM : RSm hr) (l1 : Int) (l2 : Int) 
    (F : (l1 < 0 → P 0) ∧ (0 ≤ l1 → ((hi 37 0 13 ≤ l1 → P 0) ∧ (l1 < hi 37 0 13 → ((l2 < 0 → P 0) ∧ (0 ≤ l2 → ((l2 < hi 37 0 14 → ((zInR (16 * l1)) ∧ ((zInR (256 + (16 * l1))) ∧ ((zInR ((256 + (16 * l1)) + l2)) ∧ ((0 ≤ (256 + (16 * l1)) + l2 ∧ (256 + (16 * l1)) + l2 < 512) ∧ (P (hi 39 0 ((256 + (16 * l1)) + l2)))))))) ∧ (hi 37 0 14 ≤ l2 → P 0)))))))) :
    W0i mX12_readAt [.inr (some (37, 0)), .inl l1, .inl l2] hi hr P :=
  WPm.of rfl (show WP mX12_readAt 0 [some (.inr (some (37, 0))), some (.inl l1), some (.inl l2)] [] hi hr (zQ0i hi hr P) from
  WP.iload_n (pc2 := 1) (i := 1) rfl (by decide +kernel) rfl <|
  WP.if_lt (pc2 := 4) (off := 23) (tgt := 24) rfl (by decide +kernel) (by decide) (fun h10 => have f11 := F.1 h10
  WP.iconst (pc2 := 25) (x := 0) rfl (by decide +kernel) (by decide) <|
  WP.goto (off := 18) (tgt := 43) (by decide +kernel) (by decide) <|
  WP.iret (by decide +kernel) rfl (fun hx => ⟨_, rfl, hx, rfl, rfl, f11⟩)) (fun h10 => have f12 := F.2 h10
  WP.iload_n (pc2 := 5) (i := 1) rfl (by decide +kernel) rfl <|
  WP.aload_n (pc2 := 6) (i := 0) rfl (by decide +kernel) rfl <|
  WP.getI (pc2 := 9) rfl (by decide +kernel) zc_12 zSh_37 (by decide) rfl lf_X12_171 rfl rfl <|
  WP.icmp_ge (pc2 := 12) (off := 15) (tgt := 24) rfl (by decide +kernel) (by decide) (fun h7 => have f8 := f12.1 h7
  WP.iconst (pc2 := 25) (x := 0) rfl (by decide +kernel) (by decide) <|
  WP.goto (off := 18) (tgt := 43) (by decide +kernel) (by decide) <|
  WP.iret (by decide +kernel) rfl (fun hx => ⟨_, rfl, hx, rfl, rfl, f8⟩)) (fun h7 => have f9 := f12.2 h7
  WP.iload_n (pc2 := 13) (i := 2) rfl (by decide +kernel) rfl <|
  WP.if_lt (pc2 := 16) (off := 11) (tgt := 24) rfl (by decide +kernel) (by decide) (fun h4 => have f5 := f9.1 h4
  WP.iconst (pc2 := 25) (x := 0) rfl (by decide +kernel) (by decide) <|
  WP.goto (off := 18) (tgt := 43) (by decide +kernel) (by decide) <|
  WP.iret (by decide +kernel) rfl (fun hx => ⟨_, rfl, hx, rfl, rfl, f5⟩)) (fun h4 => have f6 := f9.2 h4
  WP.iload_n (pc2 := 17) (i := 2) rfl (by decide +kernel) rfl <|
  WP.aload_n (pc2 := 18) (i := 0) rfl (by decide +kernel) rfl <|
  WP.getI (pc2 := 21) rfl (by decide +kernel) zc_12 zSh_37 (by decide) rfl lf_X12_174 rfl rfl <|
  WP.icmp_lt (pc2 := 24) (off := 7) (tgt := 28) rfl (by decide +kernel) (by decide) (fun h1 => have f2 := f6.1 h1
  WP.aload_n (pc2 := 29) (i := 0) rfl (by decide +kernel) rfl <|
  WP.getR (pc2 := 32) rfl (by decide +kernel) zc_12 zSh_37 (by decide) rfl lf_X12_20 rfl (rs_37_7 hM) <|
  WP.sipush (pc2 := 35) (x := 256) rfl (by decide +kernel) ⟨by decide +kernel, by decide⟩ <|
  WP.bipush (pc2 := 37) (x := 16) rfl (by decide +kernel) ⟨by decide +kernel, by decide⟩ <|
  WP.iload_n (pc2 := 38) (i := 1) rfl (by decide +kernel) rfl <|
  WP.imul (pc2 := 39) rfl (by decide +kernel) f2.1 <|
  WP.iadd (pc2 := 40) rfl (by decide +kernel) f2.2.1 <|
  WP.iload_n (pc2 := 41) (i := 2) rfl (by decide +kernel) rfl <|
  WP.iadd (pc2 := 42) rfl (by decide +kernel) f2.2.2.1 <|
  WP.iaload (pc2 := 43) rfl (by decide +kernel) zSh_39 rfl f2.2.2.2.1 rfl <|
  WP.iret (by decide +kernel) rfl (fun hx => ⟨_, rfl, hx, rfl, rfl, f2.2.2.2.2⟩)) (fun h1 => have f3 := f6.2 h1
  WP.iconst (pc2 := 25) (x := 0) rfl (by decide +kernel) (by decide) <|
  WP.goto (off := 18) (tgt := 43) (by decide +kernel) (by decide) <|
  WP.iret (by decide +kernel) rfl (fun hx => ⟨_, rfl, hx, rfl, rfl, f3⟩))))))
set_option maxRecDepth 100000 in
set_option maxHeartbeats 4000000 in
theorem GX12_begins {hi : zI} {hr : zR} {P : zI → Prop}  
    (F : WP mX12_begins 12 [some (.inr (some (37, 0))), some (.inl 0)] [] (zup (zup hi 37 0 9 0) 37 0 10 0) hr (zQ1v hr P)) :
    W1v mX12_begins [.inr (some (37, 0))] hi hr P :=
  WPm.of rfl (show WP mX12_begins 0 [some (.inr (some (37, 0))), none] [] hi hr (zQ1v hr P) from
  WP.aload_n (pc2 := 1) (i := 0) rfl (by decide +kernel) rfl <|
  WP.iconst (pc2 := 2) (x := 0) rfl (by decide +kernel) (by decide) <|
  WP.putI (pc2 := 5) rfl (by decide +kernel) zc_12 zSh_37 (by decide) rfl lf_X12_192 rfl (z_int _) rfl <|
  WP.aload_n (pc2 := 6) (i := 0) rfl (by decide +kernel) rfl <|
  WP.iconst (pc2 := 7) (x := 0) rfl (by decide +kernel) (by decide) <|
  WP.putI (pc2 := 10) rfl (by decide +kernel) zc_12 zSh_37 (by decide) rfl lf_X12_195 rfl (z_int _) rfl <|
  WP.iconst (pc2 := 11) (x := 0) rfl (by decide +kernel) (by decide) <|
  WP.istore_n (pc2 := 12) (i := 1) rfl (by decide +kernel) (by decide) <|
  F)

set_option maxRecDepth 100000 in
set_option maxHeartbeats 4000000 in
theorem GX12_begins_12 {hi : zI} {hr : zR} {P : zI → Prop} (hM : RSm hr) (a1 : Int) 
    (F : (zInR ((hi 37 0 5) * (hi 37 0 6))) ∧ (((hi 37 0 5) * (hi 37 0 6) ≤ a1 → (WP mX12_begins 160 [some (.inr (some (37, 0))), some (.inl 0)] [] (zup (zup (zup (zup (zup (zup (zup (zup hi 37 0 19 0) 37 0 20 0) 37 0 21 0) 37 0 61 0) 37 0 35 0) 37 0 36 0) 37 0 37 0) 37 0 53 0) hr (zQ1v hr P))) ∧ (a1 < (hi 37 0 5) * (hi 37 0 6) → ((0 ≤ a1 ∧ a1 < 256) ∧ ((0 ≤ a1 ∧ a1 < 512) ∧ ((hi 39 0 a1 ≠ 2 → ((0 ≤ a1 ∧ a1 < 512) ∧ ((hi 39 0 a1 ≠ 3 → ((zInR (a1 + 1)) ∧ (WP mX12_begins 12 [some (.inr (some (37, 0))), some (.inl (a1 + 1))] [] (zup hi 40 0 a1 (-1)) hr (zQ1v hr P)))) ∧ (hi 39 0 a1 = 3 → ((0 ≤ a1 ∧ a1 < 256) ∧ ((0 ≤ hi 37 0 10 ∧ hi 37 0 10 < 256) ∧ ((zInR ((hi 37 0 10) + 1)) ∧ ((zInR (a1 + 1)) ∧ (WP mX12_begins 12 [some (.inr (some (37, 0))), some (.inl (a1 + 1))] [] (zup (zup (zup (zup hi 40 0 a1 (-1)) 40 0 a1 (hi 37 0 10)) 42 0 (hi 37 0 10) a1) 37 0 10 ((hi 37 0 10) + 1)) hr (zQ1v hr P)))))))))) ∧ (hi 39 0 a1 = 2 → ((0 ≤ a1 ∧ a1 < 256) ∧ ((0 ≤ hi 37 0 9 ∧ hi 37 0 9 < 256) ∧ ((zInR ((hi 37 0 9) + 1)) ∧ ((0 ≤ a1 ∧ a1 < 512) ∧ ((hi 39 0 a1 ≠ 3 → ((zInR (a1 + 1)) ∧ (WP mX12_begins 12 [some (.inr (some (37, 0))), some (.inl (a1 + 1))] [] (zup (zup (zup (zup hi 40 0 a1 (-1)) 40 0 a1 (hi 37 0 9)) 41 0 (hi 37 0 9) a1) 37 0 9 ((hi 37 0 9) + 1)) hr (zQ1v hr P)))) ∧ (hi 39 0 a1 = 3 → ((0 ≤ a1 ∧ a1 < 256) ∧ ((0 ≤ hi 37 0 10 ∧ hi 37 0 10 < 256) ∧ ((zInR ((hi 37 0 10) + 1)) ∧ ((zInR (a1 + 1)) ∧ (WP mX12_begins 12 [some (.inr (some (37, 0))), some (.inl (a1 + 1))] [] (zup (zup (zup (zup (zup (zup (zup hi 40 0 a1 (-1)) 40 0 a1 (hi 37 0 9)) 41 0 (hi 37 0 9) a1) 37 0 9 ((hi 37 0 9) + 1)) 40 0 a1 (hi 37 0 10)) 42 0 (hi 37 0 10) a1) 37 0 10 ((hi 37 0 10) + 1)) hr (zQ1v hr P))))))))))))))))))) :
    WP mX12_begins 12 [some (.inr (some (37, 0))), some (.inl a1)] [] hi hr (zQ1v hr P) :=
  WP.iload_n (pc2 := 13) (i := 1) rfl (by decide +kernel) rfl <|
  WP.aload_n (pc2 := 14) (i := 0) rfl (by decide +kernel) rfl <|
  WP.getI (pc2 := 17) rfl (by decide +kernel) zc_12 zSh_37 (by decide) rfl lf_X12_149 rfl rfl <|
  WP.aload_n (pc2 := 18) (i := 0) rfl (by decide +kernel) rfl <|
  WP.getI (pc2 := 21) rfl (by decide +kernel) zc_12 zSh_37 (by decide) rfl lf_X12_152 rfl rfl <|
  WP.imul (pc2 := 22) rfl (by decide +kernel) F.1 <|
  WP.icmp_ge (pc2 := 25) (off := 96) (tgt := 118) rfl (by decide +kernel) (by decide) (fun h10 => have f11 := F.2.1 h10
  WP.aload_n (pc2 := 119) (i := 0) rfl (by decide +kernel) rfl <|
  WP.iconst (pc2 := 120) (x := 0) rfl (by decide +kernel) (by decide) <|
  WP.putI (pc2 := 123) rfl (by decide +kernel) zc_12 zSh_37 (by decide) rfl lf_X12_198 rfl (z_int _) rfl <|
  WP.aload_n (pc2 := 124) (i := 0) rfl (by decide +kernel) rfl <|
  WP.iconst (pc2 := 125) (x := 0) rfl (by decide +kernel) (by decide) <|
  WP.putI (pc2 := 128) rfl (by decide +kernel) zc_12 zSh_37 (by decide) rfl lf_X12_201 rfl (z_int _) rfl <|
  WP.aload_n (pc2 := 129) (i := 0) rfl (by decide +kernel) rfl <|
  WP.iconst (pc2 := 130) (x := 0) rfl (by decide +kernel) (by decide) <|
  WP.putI (pc2 := 133) rfl (by decide +kernel) zc_12 zSh_37 (by decide) rfl lf_X12_204 rfl (z_int _) rfl <|
  WP.aload_n (pc2 := 134) (i := 0) rfl (by decide +kernel) rfl <|
  WP.iconst (pc2 := 135) (x := 0) rfl (by decide +kernel) (by decide) <|
  WP.putI (pc2 := 138) rfl (by decide +kernel) zc_12 zSh_37 (by decide) rfl lf_X12_207 rfl (z_int _) rfl <|
  WP.aload_n (pc2 := 139) (i := 0) rfl (by decide +kernel) rfl <|
  WP.iconst (pc2 := 140) (x := 0) rfl (by decide +kernel) (by decide) <|
  WP.putI (pc2 := 143) rfl (by decide +kernel) zc_12 zSh_37 (by decide) rfl lf_X12_210 rfl (z_int _) rfl <|
  WP.aload_n (pc2 := 144) (i := 0) rfl (by decide +kernel) rfl <|
  WP.iconst (pc2 := 145) (x := 0) rfl (by decide +kernel) (by decide) <|
  WP.putI (pc2 := 148) rfl (by decide +kernel) zc_12 zSh_37 (by decide) rfl lf_X12_213 rfl (z_int _) rfl <|
  WP.aload_n (pc2 := 149) (i := 0) rfl (by decide +kernel) rfl <|
  WP.iconst (pc2 := 150) (x := 0) rfl (by decide +kernel) (by decide) <|
  WP.putI (pc2 := 153) rfl (by decide +kernel) zc_12 zSh_37 (by decide) rfl lf_X12_216 rfl (z_int _) rfl <|
  WP.aload_n (pc2 := 154) (i := 0) rfl (by decide +kernel) rfl <|
  WP.iconst (pc2 := 155) (x := 0) rfl (by decide +kernel) (by decide) <|
  WP.putI (pc2 := 158) rfl (by decide +kernel) zc_12 zSh_37 (by decide) rfl lf_X12_219 rfl (z_int _) rfl <|
  WP.iconst (pc2 := 159) (x := 0) rfl (by decide +kernel) (by decide) <|
  WP.istore_n (pc2 := 160) (i := 1) rfl (by decide +kernel) (by decide) <|
  f11) (fun h10 => have f12 := F.2.2 h10
  WP.aload_n (pc2 := 26) (i := 0) rfl (by decide +kernel) rfl <|
  WP.getR (pc2 := 29) rfl (by decide +kernel) zc_12 zSh_37 (by decide) rfl lf_X12_24 rfl (rs_37_8 hM) <|
  WP.iload_n (pc2 := 30) (i := 1) rfl (by decide +kernel) rfl <|
  WP.iconst (pc2 := 31) (x := -1) rfl (by decide +kernel) (by decide) <|
  WP.iastore (pc2 := 32) rfl (by decide +kernel) zSh_40 rfl f12.1 <|
  WP.aload_n (pc2 := 33) (i := 0) rfl (by decide +kernel) rfl <|
  WP.getR (pc2 := 36) rfl (by decide +kernel) zc_12 zSh_37 (by decide) rfl lf_X12_20 rfl (rs_37_7 hM) <|
  WP.iload_n (pc2 := 37) (i := 1) rfl (by decide +kernel) rfl <|
  WP.iaload (pc2 := 38) rfl (by decide +kernel) zSh_39 rfl f12.2.1 (zup_k _ _ _ _ _ _ (by decide)) <|
  WP.iconst (pc2 := 39) (x := 2) rfl (by decide +kernel) (by decide) <|
  WP.icmp_ne (pc2 := 42) (off := 33) (tgt := 72) rfl (by decide +kernel) (by decide) (fun h7 => have f8 := f12.2.2.1 h7
  WP.aload_n (pc2 := 73) (i := 0) rfl (by decide +kernel) rfl <|
  WP.getR (pc2 := 76) rfl (by decide +kernel) zc_12 zSh_37 (by decide) rfl lf_X12_20 rfl (rs_37_7 hM) <|
  WP.iload_n (pc2 := 77) (i := 1) rfl (by decide +kernel) rfl <|
  WP.iaload (pc2 := 78) rfl (by decide +kernel) zSh_39 rfl f8.1 (zup_k _ _ _ _ _ _ (by decide)) <|
  WP.iconst (pc2 := 79) (x := 3) rfl (by decide +kernel) (by decide) <|
  WP.icmp_ne (pc2 := 82) (off := 33) (tgt := 112) rfl (by decide +kernel) (by decide) (fun h1 => have f2 := f8.2.1 h1
  WP.iinc (pc2 := 115) (i := 1) (d := 1) rfl (by decide +kernel) rfl f2.1 <|
  WP.goto (off := -103) (tgt := 12) (by decide +kernel) (by decide) <|
  f2.2) (fun h1 => have f3 := f8.2.2 h1
  WP.aload_n (pc2 := 83) (i := 0) rfl (by decide +kernel) rfl <|
  WP.getR (pc2 := 86) rfl (by decide +kernel) zc_12 zSh_37 (by decide) rfl lf_X12_24 rfl (rs_37_8 hM) <|
  WP.iload_n (pc2 := 87) (i := 1) rfl (by decide +kernel) rfl <|
  WP.aload_n (pc2 := 88) (i := 0) rfl (by decide +kernel) rfl <|
  WP.getI (pc2 := 91) rfl (by decide +kernel) zc_12 zSh_37 (by decide) rfl lf_X12_195 rfl (zup_k _ _ _ _ _ _ (by decide)) <|
  WP.iastore (pc2 := 92) rfl (by decide +kernel) zSh_40 rfl f3.1 <|
  WP.aload_n (pc2 := 93) (i := 0) rfl (by decide +kernel) rfl <|
  WP.getR (pc2 := 96) rfl (by decide +kernel) zc_12 zSh_37 (by decide) rfl lf_X12_30 rfl (rs_37_12 hM) <|
  WP.aload_n (pc2 := 97) (i := 0) rfl (by decide +kernel) rfl <|
  WP.getI (pc2 := 100) rfl (by decide +kernel) zc_12 zSh_37 (by decide) rfl lf_X12_195 rfl ((zup_k _ _ _ _ _ _ (by decide)).trans (zup_k _ _ _ _ _ _ (by decide))) <|
  WP.iload_n (pc2 := 101) (i := 1) rfl (by decide +kernel) rfl <|
  WP.iastore (pc2 := 102) rfl (by decide +kernel) zSh_42 rfl f3.2.1 <|
  WP.aload_n (pc2 := 103) (i := 0) rfl (by decide +kernel) rfl <|
  WP.dup (pc2 := 104) rfl (by decide +kernel) <|
  WP.getI (pc2 := 107) rfl (by decide +kernel) zc_12 zSh_37 (by decide) rfl lf_X12_195 rfl ((zup_k _ _ _ _ _ _ (by decide)).trans ((zup_k _ _ _ _ _ _ (by decide)).trans (zup_k _ _ _ _ _ _ (by decide)))) <|
  WP.iconst (pc2 := 108) (x := 1) rfl (by decide +kernel) (by decide) <|
  WP.iadd (pc2 := 109) rfl (by decide +kernel) f3.2.2.1 <|
  WP.putI (pc2 := 112) rfl (by decide +kernel) zc_12 zSh_37 (by decide) rfl lf_X12_195 rfl (z_int _) rfl <|
  WP.iinc (pc2 := 115) (i := 1) (d := 1) rfl (by decide +kernel) rfl f3.2.2.2.1 <|
  WP.goto (off := -103) (tgt := 12) (by decide +kernel) (by decide) <|
  f3.2.2.2.2)) (fun h7 => have f9 := f12.2.2.2 h7
  WP.aload_n (pc2 := 43) (i := 0) rfl (by decide +kernel) rfl <|
  WP.getR (pc2 := 46) rfl (by decide +kernel) zc_12 zSh_37 (by decide) rfl lf_X12_24 rfl (rs_37_8 hM) <|
  WP.iload_n (pc2 := 47) (i := 1) rfl (by decide +kernel) rfl <|
  WP.aload_n (pc2 := 48) (i := 0) rfl (by decide +kernel) rfl <|
  WP.getI (pc2 := 51) rfl (by decide +kernel) zc_12 zSh_37 (by decide) rfl lf_X12_192 rfl (zup_k _ _ _ _ _ _ (by decide)) <|
  WP.iastore (pc2 := 52) rfl (by decide +kernel) zSh_40 rfl f9.1 <|
  WP.aload_n (pc2 := 53) (i := 0) rfl (by decide +kernel) rfl <|
  WP.getR (pc2 := 56) rfl (by decide +kernel) zc_12 zSh_37 (by decide) rfl lf_X12_27 rfl (rs_37_11 hM) <|
  WP.aload_n (pc2 := 57) (i := 0) rfl (by decide +kernel) rfl <|
  WP.getI (pc2 := 60) rfl (by decide +kernel) zc_12 zSh_37 (by decide) rfl lf_X12_192 rfl ((zup_k _ _ _ _ _ _ (by decide)).trans (zup_k _ _ _ _ _ _ (by decide))) <|
  WP.iload_n (pc2 := 61) (i := 1) rfl (by decide +kernel) rfl <|
  WP.iastore (pc2 := 62) rfl (by decide +kernel) zSh_41 rfl f9.2.1 <|
  WP.aload_n (pc2 := 63) (i := 0) rfl (by decide +kernel) rfl <|
  WP.dup (pc2 := 64) rfl (by decide +kernel) <|
  WP.getI (pc2 := 67) rfl (by decide +kernel) zc_12 zSh_37 (by decide) rfl lf_X12_192 rfl ((zup_k _ _ _ _ _ _ (by decide)).trans ((zup_k _ _ _ _ _ _ (by decide)).trans (zup_k _ _ _ _ _ _ (by decide)))) <|
  WP.iconst (pc2 := 68) (x := 1) rfl (by decide +kernel) (by decide) <|
  WP.iadd (pc2 := 69) rfl (by decide +kernel) f9.2.2.1 <|
  WP.putI (pc2 := 72) rfl (by decide +kernel) zc_12 zSh_37 (by decide) rfl lf_X12_192 rfl (z_int _) rfl <|
  WP.aload_n (pc2 := 73) (i := 0) rfl (by decide +kernel) rfl <|
  WP.getR (pc2 := 76) rfl (by decide +kernel) zc_12 zSh_37 (by decide) rfl lf_X12_20 rfl (rs_37_7 hM) <|
  WP.iload_n (pc2 := 77) (i := 1) rfl (by decide +kernel) rfl <|
  WP.iaload (pc2 := 78) rfl (by decide +kernel) zSh_39 rfl f9.2.2.2.1 ((zup_k _ _ _ _ _ _ (by decide)).trans ((zup_k _ _ _ _ _ _ (by decide)).trans ((zup_k _ _ _ _ _ _ (by decide)).trans (zup_k _ _ _ _ _ _ (by decide))))) <|
  WP.iconst (pc2 := 79) (x := 3) rfl (by decide +kernel) (by decide) <|
  WP.icmp_ne (pc2 := 82) (off := 33) (tgt := 112) rfl (by decide +kernel) (by decide) (fun h4 => have f5 := f9.2.2.2.2.1 h4
  WP.iinc (pc2 := 115) (i := 1) (d := 1) rfl (by decide +kernel) rfl f5.1 <|
  WP.goto (off := -103) (tgt := 12) (by decide +kernel) (by decide) <|
  f5.2) (fun h4 => have f6 := f9.2.2.2.2.2 h4
  WP.aload_n (pc2 := 83) (i := 0) rfl (by decide +kernel) rfl <|
  WP.getR (pc2 := 86) rfl (by decide +kernel) zc_12 zSh_37 (by decide) rfl lf_X12_24 rfl (rs_37_8 hM) <|
  WP.iload_n (pc2 := 87) (i := 1) rfl (by decide +kernel) rfl <|
  WP.aload_n (pc2 := 88) (i := 0) rfl (by decide +kernel) rfl <|
  WP.getI (pc2 := 91) rfl (by decide +kernel) zc_12 zSh_37 (by decide) rfl lf_X12_195 rfl ((zup_f _ _ _ _ _ _ (by decide)).trans ((zup_k _ _ _ _ _ _ (by decide)).trans ((zup_k _ _ _ _ _ _ (by decide)).trans (zup_k _ _ _ _ _ _ (by decide))))) <|
  WP.iastore (pc2 := 92) rfl (by decide +kernel) zSh_40 rfl f6.1 <|
  WP.aload_n (pc2 := 93) (i := 0) rfl (by decide +kernel) rfl <|
  WP.getR (pc2 := 96) rfl (by decide +kernel) zc_12 zSh_37 (by decide) rfl lf_X12_30 rfl (rs_37_12 hM) <|
  WP.aload_n (pc2 := 97) (i := 0) rfl (by decide +kernel) rfl <|
  WP.getI (pc2 := 100) rfl (by decide +kernel) zc_12 zSh_37 (by decide) rfl lf_X12_195 rfl ((zup_k _ _ _ _ _ _ (by decide)).trans ((zup_f _ _ _ _ _ _ (by decide)).trans ((zup_k _ _ _ _ _ _ (by decide)).trans ((zup_k _ _ _ _ _ _ (by decide)).trans (zup_k _ _ _ _ _ _ (by decide)))))) <|
  WP.iload_n (pc2 := 101) (i := 1) rfl (by decide +kernel) rfl <|
  WP.iastore (pc2 := 102) rfl (by decide +kernel) zSh_42 rfl f6.2.1 <|
  WP.aload_n (pc2 := 103) (i := 0) rfl (by decide +kernel) rfl <|
  WP.dup (pc2 := 104) rfl (by decide +kernel) <|
  WP.getI (pc2 := 107) rfl (by decide +kernel) zc_12 zSh_37 (by decide) rfl lf_X12_195 rfl ((zup_k _ _ _ _ _ _ (by decide)).trans ((zup_k _ _ _ _ _ _ (by decide)).trans ((zup_f _ _ _ _ _ _ (by decide)).trans ((zup_k _ _ _ _ _ _ (by decide)).trans ((zup_k _ _ _ _ _ _ (by decide)).trans (zup_k _ _ _ _ _ _ (by decide))))))) <|
  WP.iconst (pc2 := 108) (x := 1) rfl (by decide +kernel) (by decide) <|
  WP.iadd (pc2 := 109) rfl (by decide +kernel) f6.2.2.1 <|
  WP.putI (pc2 := 112) rfl (by decide +kernel) zc_12 zSh_37 (by decide) rfl lf_X12_195 rfl (z_int _) rfl <|
  WP.iinc (pc2 := 115) (i := 1) (d := 1) rfl (by decide +kernel) rfl f6.2.2.2.1 <|
  WP.goto (off := -103) (tgt := 12) (by decide +kernel) (by decide) <|
  f6.2.2.2.2)))

set_option maxRecDepth 100000 in
set_option maxHeartbeats 4000000 in
theorem GX12_begins_160 {hi : zI} {hr : zR} {P : zI → Prop} (hM : RSm hr) (a1 : Int) 
    (F : (6 ≤ a1 → P hi) ∧ (a1 < 6 → ((hi 37 0 10 ≤ a1 → ((0 ≤ a1 ∧ a1 < 6) ∧ ((0 ≤ a1 ∧ a1 < 6) ∧ ((0 ≤ a1 ∧ a1 < 6) ∧ ((0 ≤ a1 ∧ a1 < 6) ∧ ((0 ≤ a1 ∧ a1 < 6) ∧ ((0 ≤ a1 ∧ a1 < 6) ∧ ((0 ≤ a1 ∧ a1 < 6) ∧ ((0 ≤ a1 ∧ a1 < 6) ∧ ((0 ≤ a1 ∧ a1 < 6) ∧ ((0 ≤ a1 ∧ a1 < 6) ∧ ((0 ≤ a1 ∧ a1 < 6) ∧ ((0 ≤ a1 ∧ a1 < 6) ∧ ((0 ≤ a1 ∧ a1 < 6) ∧ ((0 ≤ a1 ∧ a1 < 6) ∧ ((0 ≤ a1 ∧ a1 < 6) ∧ ((0 ≤ a1 ∧ a1 < 6) ∧ ((zInR (a1 + 1)) ∧ (WP mX12_begins 160 [some (.inr (some (37, 0))), some (.inl (a1 + 1))] [] (zup (zup (zup (zup (zup (zup (zup (zup (zup (zup (zup (zup (zup (zup (zup (zup hi 67 0 a1 (-1)) 68 0 a1 0) 69 0 a1 0) 70 0 a1 0) 71 0 a1 0) 73 0 a1 0) 74 0 a1 1) 75 0 a1 0) 76 0 a1 0) 77 0 a1 0) 78 0 a1 (-1)) 54 0 a1 0) 79 0 a1 0) 80 0 a1 0) 52 0 a1 0) 53 0 a1 (-1)) hr (zQ1v hr P)))))))))))))))))))) ∧ (a1 < hi 37 0 10 → ((0 ≤ a1 ∧ a1 < 256) ∧ ((0 ≤ a1 ∧ a1 < 6) ∧ ((0 ≤ a1 ∧ a1 < 6) ∧ ((0 ≤ a1 ∧ a1 < 6) ∧ ((0 ≤ a1 ∧ a1 < 6) ∧ ((0 ≤ a1 ∧ a1 < 6) ∧ ((0 ≤ a1 ∧ a1 < 6) ∧ ((0 ≤ a1 ∧ a1 < 6) ∧ ((0 ≤ a1 ∧ a1 < 6) ∧ ((0 ≤ a1 ∧ a1 < 6) ∧ ((0 ≤ a1 ∧ a1 < 6) ∧ ((0 ≤ a1 ∧ a1 < 6) ∧ ((0 ≤ a1 ∧ a1 < 6) ∧ ((0 ≤ a1 ∧ a1 < 6) ∧ ((0 ≤ a1 ∧ a1 < 6) ∧ ((0 ≤ a1 ∧ a1 < 6) ∧ ((0 ≤ a1 ∧ a1 < 6) ∧ ((zInR (a1 + 1)) ∧ (WP mX12_begins 160 [some (.inr (some (37, 0))), some (.inl (a1 + 1))] [] (zup (zup (zup (zup (zup (zup (zup (zup (zup (zup (zup (zup (zup (zup (zup (zup hi 67 0 a1 (hi 42 0 a1)) 68 0 a1 0) 69 0 a1 0) 70 0 a1 0) 71 0 a1 0) 73 0 a1 0) 74 0 a1 1) 75 0 a1 0) 76 0 a1 0) 77 0 a1 0) 78 0 a1 (-1)) 54 0 a1 0) 79 0 a1 0) 80 0 a1 0) 52 0 a1 0) 53 0 a1 (-1)) hr (zQ1v hr P)))))))))))))))))))))))) :
    WP mX12_begins 160 [some (.inr (some (37, 0))), some (.inl a1)] [] hi hr (zQ1v hr P) :=
  WP.iload_n (pc2 := 161) (i := 1) rfl (by decide +kernel) rfl <|
  WP.bipush (pc2 := 163) (x := 6) rfl (by decide +kernel) ⟨by decide +kernel, by decide⟩ <|
  WP.icmp_ge (pc2 := 166) (off := 138) (tgt := 301) rfl (by decide +kernel) (by decide) (fun h16 => have f17 := F.1 h16
  WP.vret (by decide +kernel) rfl ⟨rfl, rfl, f17⟩) (fun h16 => have f18 := F.2 h16
  WP.aload_n (pc2 := 167) (i := 0) rfl (by decide +kernel) rfl <|
  WP.getR (pc2 := 170) rfl (by decide +kernel) zc_12 zSh_37 (by decide) rfl lf_X12_107 rfl (rs_37_46 hM) <|
  WP.iload_n (pc2 := 171) (i := 1) rfl (by decide +kernel) rfl <|
  WP.iload_n (pc2 := 172) (i := 1) rfl (by decide +kernel) rfl <|
  WP.aload_n (pc2 := 173) (i := 0) rfl (by decide +kernel) rfl <|
  WP.getI (pc2 := 176) rfl (by decide +kernel) zc_12 zSh_37 (by decide) rfl lf_X12_195 rfl rfl <|
  WP.icmp_ge (pc2 := 179) (off := 12) (tgt := 188) rfl (by decide +kernel) (by decide) (fun h13 => have f14 := f18.1 h13
  WP.iconst (pc2 := 189) (x := -1) rfl (by decide +kernel) (by decide) <|
  WP.iastore (pc2 := 190) rfl (by decide +kernel) zSh_67 rfl f14.1 <|
  WP.aload_n (pc2 := 191) (i := 0) rfl (by decide +kernel) rfl <|
  WP.getR (pc2 := 194) rfl (by decide +kernel) zc_12 zSh_37 (by decide) rfl lf_X12_110 rfl (rs_37_47 hM) <|
  WP.iload_n (pc2 := 195) (i := 1) rfl (by decide +kernel) rfl <|
  WP.iconst (pc2 := 196) (x := 0) rfl (by decide +kernel) (by decide) <|
  WP.iastore (pc2 := 197) rfl (by decide +kernel) zSh_68 rfl f14.2.1 <|
  WP.aload_n (pc2 := 198) (i := 0) rfl (by decide +kernel) rfl <|
  WP.getR (pc2 := 201) rfl (by decide +kernel) zc_12 zSh_37 (by decide) rfl lf_X12_113 rfl (rs_37_48 hM) <|
  WP.iload_n (pc2 := 202) (i := 1) rfl (by decide +kernel) rfl <|
  WP.iconst (pc2 := 203) (x := 0) rfl (by decide +kernel) (by decide) <|
  WP.iastore (pc2 := 204) rfl (by decide +kernel) zSh_69 rfl f14.2.2.1 <|
  WP.aload_n (pc2 := 205) (i := 0) rfl (by decide +kernel) rfl <|
  WP.getR (pc2 := 208) rfl (by decide +kernel) zc_12 zSh_37 (by decide) rfl lf_X12_116 rfl (rs_37_49 hM) <|
  WP.iload_n (pc2 := 209) (i := 1) rfl (by decide +kernel) rfl <|
  WP.iconst (pc2 := 210) (x := 0) rfl (by decide +kernel) (by decide) <|
  WP.iastore (pc2 := 211) rfl (by decide +kernel) zSh_70 rfl f14.2.2.2.1 <|
  WP.aload_n (pc2 := 212) (i := 0) rfl (by decide +kernel) rfl <|
  WP.getR (pc2 := 215) rfl (by decide +kernel) zc_12 zSh_37 (by decide) rfl lf_X12_119 rfl (rs_37_50 hM) <|
  WP.iload_n (pc2 := 216) (i := 1) rfl (by decide +kernel) rfl <|
  WP.iconst (pc2 := 217) (x := 0) rfl (by decide +kernel) (by decide) <|
  WP.bastore (pc2 := 218) rfl (by decide +kernel) zSh_71 (Or.inr ⟨rfl, by decide, by decide⟩) rfl f14.2.2.2.2.1 <|
  WP.aload_n (pc2 := 219) (i := 0) rfl (by decide +kernel) rfl <|
  WP.getR (pc2 := 222) rfl (by decide +kernel) zc_12 zSh_37 (by decide) rfl lf_X12_125 rfl (rs_37_52 hM) <|
  WP.iload_n (pc2 := 223) (i := 1) rfl (by decide +kernel) rfl <|
  WP.iconst (pc2 := 224) (x := 0) rfl (by decide +kernel) (by decide) <|
  WP.iastore (pc2 := 225) rfl (by decide +kernel) zSh_73 rfl f14.2.2.2.2.2.1 <|
  WP.aload_n (pc2 := 226) (i := 0) rfl (by decide +kernel) rfl <|
  WP.getR (pc2 := 229) rfl (by decide +kernel) zc_12 zSh_37 (by decide) rfl lf_X12_128 rfl (rs_37_54 hM) <|
  WP.iload_n (pc2 := 230) (i := 1) rfl (by decide +kernel) rfl <|
  WP.iconst (pc2 := 231) (x := 1) rfl (by decide +kernel) (by decide) <|
  WP.bastore (pc2 := 232) rfl (by decide +kernel) zSh_74 (Or.inr ⟨rfl, by decide, by decide⟩) rfl f14.2.2.2.2.2.2.1 <|
  WP.aload_n (pc2 := 233) (i := 0) rfl (by decide +kernel) rfl <|
  WP.getR (pc2 := 236) rfl (by decide +kernel) zc_12 zSh_37 (by decide) rfl lf_X12_131 rfl (rs_37_55 hM) <|
  WP.iload_n (pc2 := 237) (i := 1) rfl (by decide +kernel) rfl <|
  WP.iconst (pc2 := 238) (x := 0) rfl (by decide +kernel) (by decide) <|
  WP.iastore (pc2 := 239) rfl (by decide +kernel) zSh_75 rfl f14.2.2.2.2.2.2.2.1 <|
  WP.aload_n (pc2 := 240) (i := 0) rfl (by decide +kernel) rfl <|
  WP.getR (pc2 := 243) rfl (by decide +kernel) zc_12 zSh_37 (by decide) rfl lf_X12_134 rfl (rs_37_56 hM) <|
  WP.iload_n (pc2 := 244) (i := 1) rfl (by decide +kernel) rfl <|
  WP.iconst (pc2 := 245) (x := 0) rfl (by decide +kernel) (by decide) <|
  WP.iastore (pc2 := 246) rfl (by decide +kernel) zSh_76 rfl f14.2.2.2.2.2.2.2.2.1 <|
  WP.aload_n (pc2 := 247) (i := 0) rfl (by decide +kernel) rfl <|
  WP.getR (pc2 := 250) rfl (by decide +kernel) zc_12 zSh_37 (by decide) rfl lf_X12_137 rfl (rs_37_57 hM) <|
  WP.iload_n (pc2 := 251) (i := 1) rfl (by decide +kernel) rfl <|
  WP.iconst (pc2 := 252) (x := 0) rfl (by decide +kernel) (by decide) <|
  WP.iastore (pc2 := 253) rfl (by decide +kernel) zSh_77 rfl f14.2.2.2.2.2.2.2.2.2.1 <|
  WP.aload_n (pc2 := 254) (i := 0) rfl (by decide +kernel) rfl <|
  WP.getR (pc2 := 257) rfl (by decide +kernel) zc_12 zSh_37 (by decide) rfl lf_X12_140 rfl (rs_37_58 hM) <|
  WP.iload_n (pc2 := 258) (i := 1) rfl (by decide +kernel) rfl <|
  WP.iconst (pc2 := 259) (x := -1) rfl (by decide +kernel) (by decide) <|
  WP.iastore (pc2 := 260) rfl (by decide +kernel) zSh_78 rfl f14.2.2.2.2.2.2.2.2.2.2.1 <|
  WP.aload_n (pc2 := 261) (i := 0) rfl (by decide +kernel) rfl <|
  WP.getR (pc2 := 264) rfl (by decide +kernel) zc_12 zSh_37 (by decide) rfl lf_X12_67 rfl (rs_37_30 hM) <|
  WP.iload_n (pc2 := 265) (i := 1) rfl (by decide +kernel) rfl <|
  WP.iconst (pc2 := 266) (x := 0) rfl (by decide +kernel) (by decide) <|
  WP.iastore (pc2 := 267) rfl (by decide +kernel) zSh_54 rfl f14.2.2.2.2.2.2.2.2.2.2.2.1 <|
  WP.aload_n (pc2 := 268) (i := 0) rfl (by decide +kernel) rfl <|
  WP.getR (pc2 := 271) rfl (by decide +kernel) zc_12 zSh_37 (by decide) rfl lf_X12_143 rfl (rs_37_59 hM) <|
  WP.iload_n (pc2 := 272) (i := 1) rfl (by decide +kernel) rfl <|
  WP.iconst (pc2 := 273) (x := 0) rfl (by decide +kernel) (by decide) <|
  WP.iastore (pc2 := 274) rfl (by decide +kernel) zSh_79 rfl f14.2.2.2.2.2.2.2.2.2.2.2.2.1 <|
  WP.aload_n (pc2 := 275) (i := 0) rfl (by decide +kernel) rfl <|
  WP.getR (pc2 := 278) rfl (by decide +kernel) zc_12 zSh_37 (by decide) rfl lf_X12_146 rfl (rs_37_60 hM) <|
  WP.iload_n (pc2 := 279) (i := 1) rfl (by decide +kernel) rfl <|
  WP.iconst (pc2 := 280) (x := 0) rfl (by decide +kernel) (by decide) <|
  WP.iastore (pc2 := 281) rfl (by decide +kernel) zSh_80 rfl f14.2.2.2.2.2.2.2.2.2.2.2.2.2.1 <|
  WP.aload_n (pc2 := 282) (i := 0) rfl (by decide +kernel) rfl <|
  WP.getR (pc2 := 285) rfl (by decide +kernel) zc_12 zSh_37 (by decide) rfl lf_X12_61 rfl (rs_37_28 hM) <|
  WP.iload_n (pc2 := 286) (i := 1) rfl (by decide +kernel) rfl <|
  WP.iconst (pc2 := 287) (x := 0) rfl (by decide +kernel) (by decide) <|
  WP.iastore (pc2 := 288) rfl (by decide +kernel) zSh_52 rfl f14.2.2.2.2.2.2.2.2.2.2.2.2.2.2.1 <|
  WP.aload_n (pc2 := 289) (i := 0) rfl (by decide +kernel) rfl <|
  WP.getR (pc2 := 292) rfl (by decide +kernel) zc_12 zSh_37 (by decide) rfl lf_X12_64 rfl (rs_37_29 hM) <|
  WP.iload_n (pc2 := 293) (i := 1) rfl (by decide +kernel) rfl <|
  WP.iconst (pc2 := 294) (x := -1) rfl (by decide +kernel) (by decide) <|
  WP.iastore (pc2 := 295) rfl (by decide +kernel) zSh_53 rfl f14.2.2.2.2.2.2.2.2.2.2.2.2.2.2.2.1 <|
  WP.iinc (pc2 := 298) (i := 1) (d := 1) rfl (by decide +kernel) rfl f14.2.2.2.2.2.2.2.2.2.2.2.2.2.2.2.2.1 <|
  WP.goto (off := -138) (tgt := 160) (by decide +kernel) (by decide) <|
  f14.2.2.2.2.2.2.2.2.2.2.2.2.2.2.2.2.2) (fun h13 => have f15 := f18.2 h13
  WP.aload_n (pc2 := 180) (i := 0) rfl (by decide +kernel) rfl <|
  WP.getR (pc2 := 183) rfl (by decide +kernel) zc_12 zSh_37 (by decide) rfl lf_X12_30 rfl (rs_37_12 hM) <|
  WP.iload_n (pc2 := 184) (i := 1) rfl (by decide +kernel) rfl <|
  WP.iaload (pc2 := 185) rfl (by decide +kernel) zSh_42 rfl f15.1 rfl <|
  WP.goto (off := 4) (tgt := 189) (by decide +kernel) (by decide) <|
  WP.iastore (pc2 := 190) rfl (by decide +kernel) zSh_67 rfl f15.2.1 <|
  WP.aload_n (pc2 := 191) (i := 0) rfl (by decide +kernel) rfl <|
  WP.getR (pc2 := 194) rfl (by decide +kernel) zc_12 zSh_37 (by decide) rfl lf_X12_110 rfl (rs_37_47 hM) <|
  WP.iload_n (pc2 := 195) (i := 1) rfl (by decide +kernel) rfl <|
  WP.iconst (pc2 := 196) (x := 0) rfl (by decide +kernel) (by decide) <|
  WP.iastore (pc2 := 197) rfl (by decide +kernel) zSh_68 rfl f15.2.2.1 <|
  WP.aload_n (pc2 := 198) (i := 0) rfl (by decide +kernel) rfl <|
  WP.getR (pc2 := 201) rfl (by decide +kernel) zc_12 zSh_37 (by decide) rfl lf_X12_113 rfl (rs_37_48 hM) <|
  WP.iload_n (pc2 := 202) (i := 1) rfl (by decide +kernel) rfl <|
  WP.iconst (pc2 := 203) (x := 0) rfl (by decide +kernel) (by decide) <|
  WP.iastore (pc2 := 204) rfl (by decide +kernel) zSh_69 rfl f15.2.2.2.1 <|
  WP.aload_n (pc2 := 205) (i := 0) rfl (by decide +kernel) rfl <|
  WP.getR (pc2 := 208) rfl (by decide +kernel) zc_12 zSh_37 (by decide) rfl lf_X12_116 rfl (rs_37_49 hM) <|
  WP.iload_n (pc2 := 209) (i := 1) rfl (by decide +kernel) rfl <|
  WP.iconst (pc2 := 210) (x := 0) rfl (by decide +kernel) (by decide) <|
  WP.iastore (pc2 := 211) rfl (by decide +kernel) zSh_70 rfl f15.2.2.2.2.1 <|
  WP.aload_n (pc2 := 212) (i := 0) rfl (by decide +kernel) rfl <|
  WP.getR (pc2 := 215) rfl (by decide +kernel) zc_12 zSh_37 (by decide) rfl lf_X12_119 rfl (rs_37_50 hM) <|
  WP.iload_n (pc2 := 216) (i := 1) rfl (by decide +kernel) rfl <|
  WP.iconst (pc2 := 217) (x := 0) rfl (by decide +kernel) (by decide) <|
  WP.bastore (pc2 := 218) rfl (by decide +kernel) zSh_71 (Or.inr ⟨rfl, by decide, by decide⟩) rfl f15.2.2.2.2.2.1 <|
  WP.aload_n (pc2 := 219) (i := 0) rfl (by decide +kernel) rfl <|
  WP.getR (pc2 := 222) rfl (by decide +kernel) zc_12 zSh_37 (by decide) rfl lf_X12_125 rfl (rs_37_52 hM) <|
  WP.iload_n (pc2 := 223) (i := 1) rfl (by decide +kernel) rfl <|
  WP.iconst (pc2 := 224) (x := 0) rfl (by decide +kernel) (by decide) <|
  WP.iastore (pc2 := 225) rfl (by decide +kernel) zSh_73 rfl f15.2.2.2.2.2.2.1 <|
  WP.aload_n (pc2 := 226) (i := 0) rfl (by decide +kernel) rfl <|
  WP.getR (pc2 := 229) rfl (by decide +kernel) zc_12 zSh_37 (by decide) rfl lf_X12_128 rfl (rs_37_54 hM) <|
  WP.iload_n (pc2 := 230) (i := 1) rfl (by decide +kernel) rfl <|
  WP.iconst (pc2 := 231) (x := 1) rfl (by decide +kernel) (by decide) <|
  WP.bastore (pc2 := 232) rfl (by decide +kernel) zSh_74 (Or.inr ⟨rfl, by decide, by decide⟩) rfl f15.2.2.2.2.2.2.2.1 <|
  WP.aload_n (pc2 := 233) (i := 0) rfl (by decide +kernel) rfl <|
  WP.getR (pc2 := 236) rfl (by decide +kernel) zc_12 zSh_37 (by decide) rfl lf_X12_131 rfl (rs_37_55 hM) <|
  WP.iload_n (pc2 := 237) (i := 1) rfl (by decide +kernel) rfl <|
  WP.iconst (pc2 := 238) (x := 0) rfl (by decide +kernel) (by decide) <|
  WP.iastore (pc2 := 239) rfl (by decide +kernel) zSh_75 rfl f15.2.2.2.2.2.2.2.2.1 <|
  WP.aload_n (pc2 := 240) (i := 0) rfl (by decide +kernel) rfl <|
  WP.getR (pc2 := 243) rfl (by decide +kernel) zc_12 zSh_37 (by decide) rfl lf_X12_134 rfl (rs_37_56 hM) <|
  WP.iload_n (pc2 := 244) (i := 1) rfl (by decide +kernel) rfl <|
  WP.iconst (pc2 := 245) (x := 0) rfl (by decide +kernel) (by decide) <|
  WP.iastore (pc2 := 246) rfl (by decide +kernel) zSh_76 rfl f15.2.2.2.2.2.2.2.2.2.1 <|
  WP.aload_n (pc2 := 247) (i := 0) rfl (by decide +kernel) rfl <|
  WP.getR (pc2 := 250) rfl (by decide +kernel) zc_12 zSh_37 (by decide) rfl lf_X12_137 rfl (rs_37_57 hM) <|
  WP.iload_n (pc2 := 251) (i := 1) rfl (by decide +kernel) rfl <|
  WP.iconst (pc2 := 252) (x := 0) rfl (by decide +kernel) (by decide) <|
  WP.iastore (pc2 := 253) rfl (by decide +kernel) zSh_77 rfl f15.2.2.2.2.2.2.2.2.2.2.1 <|
  WP.aload_n (pc2 := 254) (i := 0) rfl (by decide +kernel) rfl <|
  WP.getR (pc2 := 257) rfl (by decide +kernel) zc_12 zSh_37 (by decide) rfl lf_X12_140 rfl (rs_37_58 hM) <|
  WP.iload_n (pc2 := 258) (i := 1) rfl (by decide +kernel) rfl <|
  WP.iconst (pc2 := 259) (x := -1) rfl (by decide +kernel) (by decide) <|
  WP.iastore (pc2 := 260) rfl (by decide +kernel) zSh_78 rfl f15.2.2.2.2.2.2.2.2.2.2.2.1 <|
  WP.aload_n (pc2 := 261) (i := 0) rfl (by decide +kernel) rfl <|
  WP.getR (pc2 := 264) rfl (by decide +kernel) zc_12 zSh_37 (by decide) rfl lf_X12_67 rfl (rs_37_30 hM) <|
  WP.iload_n (pc2 := 265) (i := 1) rfl (by decide +kernel) rfl <|
  WP.iconst (pc2 := 266) (x := 0) rfl (by decide +kernel) (by decide) <|
  WP.iastore (pc2 := 267) rfl (by decide +kernel) zSh_54 rfl f15.2.2.2.2.2.2.2.2.2.2.2.2.1 <|
  WP.aload_n (pc2 := 268) (i := 0) rfl (by decide +kernel) rfl <|
  WP.getR (pc2 := 271) rfl (by decide +kernel) zc_12 zSh_37 (by decide) rfl lf_X12_143 rfl (rs_37_59 hM) <|
  WP.iload_n (pc2 := 272) (i := 1) rfl (by decide +kernel) rfl <|
  WP.iconst (pc2 := 273) (x := 0) rfl (by decide +kernel) (by decide) <|
  WP.iastore (pc2 := 274) rfl (by decide +kernel) zSh_79 rfl f15.2.2.2.2.2.2.2.2.2.2.2.2.2.1 <|
  WP.aload_n (pc2 := 275) (i := 0) rfl (by decide +kernel) rfl <|
  WP.getR (pc2 := 278) rfl (by decide +kernel) zc_12 zSh_37 (by decide) rfl lf_X12_146 rfl (rs_37_60 hM) <|
  WP.iload_n (pc2 := 279) (i := 1) rfl (by decide +kernel) rfl <|
  WP.iconst (pc2 := 280) (x := 0) rfl (by decide +kernel) (by decide) <|
  WP.iastore (pc2 := 281) rfl (by decide +kernel) zSh_80 rfl f15.2.2.2.2.2.2.2.2.2.2.2.2.2.2.1 <|
  WP.aload_n (pc2 := 282) (i := 0) rfl (by decide +kernel) rfl <|
  WP.getR (pc2 := 285) rfl (by decide +kernel) zc_12 zSh_37 (by decide) rfl lf_X12_61 rfl (rs_37_28 hM) <|
  WP.iload_n (pc2 := 286) (i := 1) rfl (by decide +kernel) rfl <|
  WP.iconst (pc2 := 287) (x := 0) rfl (by decide +kernel) (by decide) <|
  WP.iastore (pc2 := 288) rfl (by decide +kernel) zSh_52 rfl f15.2.2.2.2.2.2.2.2.2.2.2.2.2.2.2.1 <|
  WP.aload_n (pc2 := 289) (i := 0) rfl (by decide +kernel) rfl <|
  WP.getR (pc2 := 292) rfl (by decide +kernel) zc_12 zSh_37 (by decide) rfl lf_X12_64 rfl (rs_37_29 hM) <|
  WP.iload_n (pc2 := 293) (i := 1) rfl (by decide +kernel) rfl <|
  WP.iconst (pc2 := 294) (x := -1) rfl (by decide +kernel) (by decide) <|
  WP.iastore (pc2 := 295) rfl (by decide +kernel) zSh_53 rfl f15.2.2.2.2.2.2.2.2.2.2.2.2.2.2.2.2.1 <|
  WP.iinc (pc2 := 298) (i := 1) (d := 1) rfl (by decide +kernel) rfl f15.2.2.2.2.2.2.2.2.2.2.2.2.2.2.2.2.2.1 <|
  WP.goto (off := -138) (tgt := 160) (by decide +kernel) (by decide) <|
  f15.2.2.2.2.2.2.2.2.2.2.2.2.2.2.2.2.2.2))
set_option maxRecDepth 100000 in
set_option maxHeartbeats 4000000 in
theorem GX12_fates {hi : zI} {hr : zR} {P : Int → zI → Prop} (l1 : Int) 
    (F : (l1 < 1 → P 0 hi) ∧ (1 ≤ l1 → ((l1 ≤ 64 → (WP mX12_fates 20 [some (.inr (some (37, 0))), some (.inl l1), some (.inl 0)] [] (zup hi 37 0 17 l1) hr (zQ1i hr P))) ∧ (64 < l1 → P 0 hi)))) :
    W1i mX12_fates [.inr (some (37, 0)), .inl l1] hi hr P :=
  WPm.of rfl (show WP mX12_fates 0 [some (.inr (some (37, 0))), some (.inl l1), none] [] hi hr (zQ1i hr P) from
  WP.iload_n (pc2 := 1) (i := 1) rfl (by decide +kernel) rfl <|
  WP.iconst (pc2 := 2) (x := 1) rfl (by decide +kernel) (by decide) <|
  WP.icmp_lt (pc2 := 5) (off := 9) (tgt := 11) rfl (by decide +kernel) (by decide) (fun h4 => have f5 := F.1 h4
  WP.iconst (pc2 := 12) (x := 0) rfl (by decide +kernel) (by decide) <|
  WP.zret (by decide +kernel) rfl (by decide) (fun hx => ⟨_, rfl, hx, rfl, f5⟩)) (fun h4 => have f6 := F.2 h4
  WP.iload_n (pc2 := 6) (i := 1) rfl (by decide +kernel) rfl <|
  WP.bipush (pc2 := 8) (x := 64) rfl (by decide +kernel) ⟨by decide +kernel, by decide⟩ <|
  WP.icmp_le (pc2 := 11) (off := 5) (tgt := 13) rfl (by decide +kernel) (by decide) (fun h1 => have f2 := f6.1 h1
  WP.aload_n (pc2 := 14) (i := 0) rfl (by decide +kernel) rfl <|
  WP.iload_n (pc2 := 15) (i := 1) rfl (by decide +kernel) rfl <|
  WP.putI (pc2 := 18) rfl (by decide +kernel) zc_12 zSh_37 (by decide) rfl lf_X12_155 rfl (z_int _) rfl <|
  WP.iconst (pc2 := 19) (x := 0) rfl (by decide +kernel) (by decide) <|
  WP.istore_n (pc2 := 20) (i := 2) rfl (by decide +kernel) (by decide) <|
  f2) (fun h1 => have f3 := f6.2 h1
  WP.iconst (pc2 := 12) (x := 0) rfl (by decide +kernel) (by decide) <|
  WP.zret (by decide +kernel) rfl (by decide) (fun hx => ⟨_, rfl, hx, rfl, f3⟩))))

set_option maxRecDepth 100000 in
set_option maxHeartbeats 4000000 in
theorem GX12_fates_20 {hi : zI} {hr : zR} {P : Int → zI → Prop} (hM : RSm hr) (l1 : Int) (a2 : Int) 
    (F : (64 ≤ a2 → P 1 hi) ∧ (a2 < 64 → ((0 ≤ a2 ∧ a2 < 64) ∧ ((zInR (a2 + 1)) ∧ (WP mX12_fates 20 [some (.inr (some (37, 0))), some (.inl l1), some (.inl (a2 + 1))] [] (zup hi 45 0 a2 0) hr (zQ1i hr P)))))) :
    WP mX12_fates 20 [some (.inr (some (37, 0))), some (.inl l1), some (.inl a2)] [] hi hr (zQ1i hr P) :=
  WP.iload_n (pc2 := 21) (i := 2) rfl (by decide +kernel) rfl <|
  WP.bipush (pc2 := 23) (x := 64) rfl (by decide +kernel) ⟨by decide +kernel, by decide⟩ <|
  WP.icmp_ge (pc2 := 26) (off := 16) (tgt := 39) rfl (by decide +kernel) (by decide) (fun h7 => have f8 := F.1 h7
  WP.iconst (pc2 := 40) (x := 1) rfl (by decide +kernel) (by decide) <|
  WP.zret (by decide +kernel) rfl (by decide) (fun hx => ⟨_, rfl, hx, rfl, f8⟩)) (fun h7 => have f9 := F.2 h7
  WP.aload_n (pc2 := 27) (i := 0) rfl (by decide +kernel) rfl <|
  WP.getR (pc2 := 30) rfl (by decide +kernel) zc_12 zSh_37 (by decide) rfl lf_X12_40 rfl (rs_37_18 hM) <|
  WP.iload_n (pc2 := 31) (i := 2) rfl (by decide +kernel) rfl <|
  WP.iconst (pc2 := 32) (x := 0) rfl (by decide +kernel) (by decide) <|
  WP.iastore (pc2 := 33) rfl (by decide +kernel) zSh_45 rfl f9.1 <|
  WP.iinc (pc2 := 36) (i := 2) (d := 1) rfl (by decide +kernel) rfl f9.2.1 <|
  WP.goto (off := -16) (tgt := 20) (by decide +kernel) (by decide) <|
  f9.2.2)
set_option maxRecDepth 100000 in
set_option maxHeartbeats 4000000 in
theorem GX12_fate {hi : zI} {hr : zR} {P : Int → zI → Prop} (hM : RSm hr) (l1 : Int) (l2 : Int) 
    (F : (l1 < 0 → P 0 hi) ∧ (0 ≤ l1 → ((hi 37 0 17 ≤ l1 → P 0 hi) ∧ (l1 < hi 37 0 17 → ((l2 < 0 → P 0 hi) ∧ (0 ≤ l2 → ((l2 ≤ 15 → ((0 ≤ l1 ∧ l1 < 64) ∧ (P 1 (zup hi 45 0 l1 l2)))) ∧ (15 < l2 → P 0 hi)))))))) :
    W1i mX12_fate [.inr (some (37, 0)), .inl l1, .inl l2] hi hr P :=
  WPm.of rfl (show WP mX12_fate 0 [some (.inr (some (37, 0))), some (.inl l1), some (.inl l2)] [] hi hr (zQ1i hr P) from
  WP.iload_n (pc2 := 1) (i := 1) rfl (by decide +kernel) rfl <|
  WP.if_lt (pc2 := 4) (off := 21) (tgt := 22) rfl (by decide +kernel) (by decide) (fun h10 => have f11 := F.1 h10
  WP.iconst (pc2 := 23) (x := 0) rfl (by decide +kernel) (by decide) <|
  WP.zret (by decide +kernel) rfl (by decide) (fun hx => ⟨_, rfl, hx, rfl, f11⟩)) (fun h10 => have f12 := F.2 h10
  WP.iload_n (pc2 := 5) (i := 1) rfl (by decide +kernel) rfl <|
  WP.aload_n (pc2 := 6) (i := 0) rfl (by decide +kernel) rfl <|
  WP.getI (pc2 := 9) rfl (by decide +kernel) zc_12 zSh_37 (by decide) rfl lf_X12_155 rfl rfl <|
  WP.icmp_ge (pc2 := 12) (off := 13) (tgt := 22) rfl (by decide +kernel) (by decide) (fun h7 => have f8 := f12.1 h7
  WP.iconst (pc2 := 23) (x := 0) rfl (by decide +kernel) (by decide) <|
  WP.zret (by decide +kernel) rfl (by decide) (fun hx => ⟨_, rfl, hx, rfl, f8⟩)) (fun h7 => have f9 := f12.2 h7
  WP.iload_n (pc2 := 13) (i := 2) rfl (by decide +kernel) rfl <|
  WP.if_lt (pc2 := 16) (off := 9) (tgt := 22) rfl (by decide +kernel) (by decide) (fun h4 => have f5 := f9.1 h4
  WP.iconst (pc2 := 23) (x := 0) rfl (by decide +kernel) (by decide) <|
  WP.zret (by decide +kernel) rfl (by decide) (fun hx => ⟨_, rfl, hx, rfl, f5⟩)) (fun h4 => have f6 := f9.2 h4
  WP.iload_n (pc2 := 17) (i := 2) rfl (by decide +kernel) rfl <|
  WP.bipush (pc2 := 19) (x := 15) rfl (by decide +kernel) ⟨by decide +kernel, by decide⟩ <|
  WP.icmp_le (pc2 := 22) (off := 5) (tgt := 24) rfl (by decide +kernel) (by decide) (fun h1 => have f2 := f6.1 h1
  WP.aload_n (pc2 := 25) (i := 0) rfl (by decide +kernel) rfl <|
  WP.getR (pc2 := 28) rfl (by decide +kernel) zc_12 zSh_37 (by decide) rfl lf_X12_40 rfl (rs_37_18 hM) <|
  WP.iload_n (pc2 := 29) (i := 1) rfl (by decide +kernel) rfl <|
  WP.iload_n (pc2 := 30) (i := 2) rfl (by decide +kernel) rfl <|
  WP.iastore (pc2 := 31) rfl (by decide +kernel) zSh_45 rfl f2.1 <|
  WP.iconst (pc2 := 32) (x := 1) rfl (by decide +kernel) (by decide) <|
  WP.zret (by decide +kernel) rfl (by decide) (fun hx => ⟨_, rfl, hx, rfl, f2.2⟩)) (fun h1 => have f3 := f6.2 h1
  WP.iconst (pc2 := 23) (x := 0) rfl (by decide +kernel) (by decide) <|
  WP.zret (by decide +kernel) rfl (by decide) (fun hx => ⟨_, rfl, hx, rfl, f3⟩))))))
set_option maxRecDepth 100000 in
set_option maxHeartbeats 4000000 in
theorem GX12_task {hi : zI} {hr : zR} {P : Int → zI → Prop} (hM : RSm hr) (l1 : Int) (l2 : Int) 
    (F : (l1 < 0 → (P (-1) hi)) ∧ (0 ≤ l1 → ((hi 37 0 9 ≤ l1 → (P (-1) hi)) ∧ (l1 < hi 37 0 9 → ((l2 < 0 → (P (-1) hi)) ∧ (0 ≤ l2 → ((hi 37 0 9 ≤ l2 → (P (-1) hi)) ∧ (l2 < hi 37 0 9 → ((l1 = l2 → (P (-1) hi)) ∧ (l1 ≠ l2 → ((hi 37 0 19 ≠ 60 → ((0 ≤ hi 37 0 19 ∧ hi 37 0 19 < 60) ∧ ((0 ≤ hi 37 0 19 ∧ hi 37 0 19 < 60) ∧ ((0 ≤ hi 37 0 19 ∧ hi 37 0 19 < 60) ∧ ((0 ≤ hi 37 0 19 ∧ hi 37 0 19 < 60) ∧ ((0 ≤ hi 37 0 19 ∧ hi 37 0 19 < 60) ∧ ((zInR ((hi 37 0 19) + 1)) ∧ ((zInR (((hi 37 0 19) + 1) - 1)) ∧ (P (((hi 37 0 19) + 1) - 1) (zup (zup (zup (zup (zup (zup hi 46 0 (hi 37 0 19) l1) 47 0 (hi 37 0 19) l2) 48 0 (hi 37 0 19) (-1)) 49 0 (hi 37 0 19) (-1)) 50 0 (hi 37 0 19) (-1)) 37 0 19 ((hi 37 0 19) + 1))))))))))) ∧ (hi 37 0 19 = 60 → (P (-1) hi))))))))))))) :
    W1i mX12_task [.inr (some (37, 0)), .inl l1, .inl l2] hi hr P :=
  WPm.of rfl (show WP mX12_task 0 [some (.inr (some (37, 0))), some (.inl l1), some (.inl l2)] [] hi hr (zQ1i hr P) from
  WP.iload_n (pc2 := 1) (i := 1) rfl (by decide +kernel) rfl <|
  WP.if_lt (pc2 := 4) (off := 37) (tgt := 38) rfl (by decide +kernel) (by decide) (fun h16 => have f17 := F.1 h16
  WP.iconst (pc2 := 39) (x := -1) rfl (by decide +kernel) (by decide) <|
  WP.iret (by decide +kernel) rfl (fun hx => ⟨_, rfl, hx, rfl, f17⟩)) (fun h16 => have f18 := F.2 h16
  WP.iload_n (pc2 := 5) (i := 1) rfl (by decide +kernel) rfl <|
  WP.aload_n (pc2 := 6) (i := 0) rfl (by decide +kernel) rfl <|
  WP.getI (pc2 := 9) rfl (by decide +kernel) zc_12 zSh_37 (by decide) rfl lf_X12_192 rfl rfl <|
  WP.icmp_ge (pc2 := 12) (off := 29) (tgt := 38) rfl (by decide +kernel) (by decide) (fun h13 => have f14 := f18.1 h13
  WP.iconst (pc2 := 39) (x := -1) rfl (by decide +kernel) (by decide) <|
  WP.iret (by decide +kernel) rfl (fun hx => ⟨_, rfl, hx, rfl, f14⟩)) (fun h13 => have f15 := f18.2 h13
  WP.iload_n (pc2 := 13) (i := 2) rfl (by decide +kernel) rfl <|
  WP.if_lt (pc2 := 16) (off := 25) (tgt := 38) rfl (by decide +kernel) (by decide) (fun h10 => have f11 := f15.1 h10
  WP.iconst (pc2 := 39) (x := -1) rfl (by decide +kernel) (by decide) <|
  WP.iret (by decide +kernel) rfl (fun hx => ⟨_, rfl, hx, rfl, f11⟩)) (fun h10 => have f12 := f15.2 h10
  WP.iload_n (pc2 := 17) (i := 2) rfl (by decide +kernel) rfl <|
  WP.aload_n (pc2 := 18) (i := 0) rfl (by decide +kernel) rfl <|
  WP.getI (pc2 := 21) rfl (by decide +kernel) zc_12 zSh_37 (by decide) rfl lf_X12_192 rfl rfl <|
  WP.icmp_ge (pc2 := 24) (off := 17) (tgt := 38) rfl (by decide +kernel) (by decide) (fun h7 => have f8 := f12.1 h7
  WP.iconst (pc2 := 39) (x := -1) rfl (by decide +kernel) (by decide) <|
  WP.iret (by decide +kernel) rfl (fun hx => ⟨_, rfl, hx, rfl, f8⟩)) (fun h7 => have f9 := f12.2 h7
  WP.iload_n (pc2 := 25) (i := 1) rfl (by decide +kernel) rfl <|
  WP.iload_n (pc2 := 26) (i := 2) rfl (by decide +kernel) rfl <|
  WP.icmp_eq (pc2 := 29) (off := 12) (tgt := 38) rfl (by decide +kernel) (by decide) (fun h4 => have f5 := f9.1 h4
  WP.iconst (pc2 := 39) (x := -1) rfl (by decide +kernel) (by decide) <|
  WP.iret (by decide +kernel) rfl (fun hx => ⟨_, rfl, hx, rfl, f5⟩)) (fun h4 => have f6 := f9.2 h4
  WP.aload_n (pc2 := 30) (i := 0) rfl (by decide +kernel) rfl <|
  WP.getI (pc2 := 33) rfl (by decide +kernel) zc_12 zSh_37 (by decide) rfl lf_X12_198 rfl rfl <|
  WP.bipush (pc2 := 35) (x := 60) rfl (by decide +kernel) ⟨by decide +kernel, by decide⟩ <|
  WP.icmp_ne (pc2 := 38) (off := 5) (tgt := 40) rfl (by decide +kernel) (by decide) (fun h1 => have f2 := f6.1 h1
  WP.aload_n (pc2 := 41) (i := 0) rfl (by decide +kernel) rfl <|
  WP.getR (pc2 := 44) rfl (by decide +kernel) zc_12 zSh_37 (by decide) rfl lf_X12_43 rfl (rs_37_22 hM) <|
  WP.aload_n (pc2 := 45) (i := 0) rfl (by decide +kernel) rfl <|
  WP.getI (pc2 := 48) rfl (by decide +kernel) zc_12 zSh_37 (by decide) rfl lf_X12_198 rfl rfl <|
  WP.iload_n (pc2 := 49) (i := 1) rfl (by decide +kernel) rfl <|
  WP.iastore (pc2 := 50) rfl (by decide +kernel) zSh_46 rfl f2.1 <|
  WP.aload_n (pc2 := 51) (i := 0) rfl (by decide +kernel) rfl <|
  WP.getR (pc2 := 54) rfl (by decide +kernel) zc_12 zSh_37 (by decide) rfl lf_X12_46 rfl (rs_37_23 hM) <|
  WP.aload_n (pc2 := 55) (i := 0) rfl (by decide +kernel) rfl <|
  WP.getI (pc2 := 58) rfl (by decide +kernel) zc_12 zSh_37 (by decide) rfl lf_X12_198 rfl (zup_k _ _ _ _ _ _ (by decide)) <|
  WP.iload_n (pc2 := 59) (i := 2) rfl (by decide +kernel) rfl <|
  WP.iastore (pc2 := 60) rfl (by decide +kernel) zSh_47 rfl f2.2.1 <|
  WP.aload_n (pc2 := 61) (i := 0) rfl (by decide +kernel) rfl <|
  WP.getR (pc2 := 64) rfl (by decide +kernel) zc_12 zSh_37 (by decide) rfl lf_X12_49 rfl (rs_37_24 hM) <|
  WP.aload_n (pc2 := 65) (i := 0) rfl (by decide +kernel) rfl <|
  WP.getI (pc2 := 68) rfl (by decide +kernel) zc_12 zSh_37 (by decide) rfl lf_X12_198 rfl ((zup_k _ _ _ _ _ _ (by decide)).trans (zup_k _ _ _ _ _ _ (by decide))) <|
  WP.iconst (pc2 := 69) (x := -1) rfl (by decide +kernel) (by decide) <|
  WP.iastore (pc2 := 70) rfl (by decide +kernel) zSh_48 rfl f2.2.2.1 <|
  WP.aload_n (pc2 := 71) (i := 0) rfl (by decide +kernel) rfl <|
  WP.getR (pc2 := 74) rfl (by decide +kernel) zc_12 zSh_37 (by decide) rfl lf_X12_52 rfl (rs_37_25 hM) <|
  WP.aload_n (pc2 := 75) (i := 0) rfl (by decide +kernel) rfl <|
  WP.getI (pc2 := 78) rfl (by decide +kernel) zc_12 zSh_37 (by decide) rfl lf_X12_198 rfl ((zup_k _ _ _ _ _ _ (by decide)).trans ((zup_k _ _ _ _ _ _ (by decide)).trans (zup_k _ _ _ _ _ _ (by decide)))) <|
  WP.iconst (pc2 := 79) (x := -1) rfl (by decide +kernel) (by decide) <|
  WP.iastore (pc2 := 80) rfl (by decide +kernel) zSh_49 rfl f2.2.2.2.1 <|
  WP.aload_n (pc2 := 81) (i := 0) rfl (by decide +kernel) rfl <|
  WP.getR (pc2 := 84) rfl (by decide +kernel) zc_12 zSh_37 (by decide) rfl lf_X12_55 rfl (rs_37_26 hM) <|
  WP.aload_n (pc2 := 85) (i := 0) rfl (by decide +kernel) rfl <|
  WP.getI (pc2 := 88) rfl (by decide +kernel) zc_12 zSh_37 (by decide) rfl lf_X12_198 rfl ((zup_k _ _ _ _ _ _ (by decide)).trans ((zup_k _ _ _ _ _ _ (by decide)).trans ((zup_k _ _ _ _ _ _ (by decide)).trans (zup_k _ _ _ _ _ _ (by decide))))) <|
  WP.iconst (pc2 := 89) (x := -1) rfl (by decide +kernel) (by decide) <|
  WP.iastore (pc2 := 90) rfl (by decide +kernel) zSh_50 rfl f2.2.2.2.2.1 <|
  WP.aload_n (pc2 := 91) (i := 0) rfl (by decide +kernel) rfl <|
  WP.dup (pc2 := 92) rfl (by decide +kernel) <|
  WP.getI (pc2 := 95) rfl (by decide +kernel) zc_12 zSh_37 (by decide) rfl lf_X12_198 rfl ((zup_k _ _ _ _ _ _ (by decide)).trans ((zup_k _ _ _ _ _ _ (by decide)).trans ((zup_k _ _ _ _ _ _ (by decide)).trans ((zup_k _ _ _ _ _ _ (by decide)).trans (zup_k _ _ _ _ _ _ (by decide)))))) <|
  WP.iconst (pc2 := 96) (x := 1) rfl (by decide +kernel) (by decide) <|
  WP.iadd (pc2 := 97) rfl (by decide +kernel) f2.2.2.2.2.2.1 <|
  WP.putI (pc2 := 100) rfl (by decide +kernel) zc_12 zSh_37 (by decide) rfl lf_X12_198 rfl (z_int _) rfl <|
  WP.aload_n (pc2 := 101) (i := 0) rfl (by decide +kernel) rfl <|
  WP.getI (pc2 := 104) rfl (by decide +kernel) zc_12 zSh_37 (by decide) rfl lf_X12_198 rfl (zup_s _ _ _ _ _) <|
  WP.iconst (pc2 := 105) (x := 1) rfl (by decide +kernel) (by decide) <|
  WP.isub (pc2 := 106) rfl (by decide +kernel) f2.2.2.2.2.2.2.1 <|
  WP.iret (by decide +kernel) rfl (fun hx => ⟨_, rfl, hx, rfl, f2.2.2.2.2.2.2.2⟩)) (fun h1 => have f3 := f6.2 h1
  WP.iconst (pc2 := 39) (x := -1) rfl (by decide +kernel) (by decide) <|
  WP.iret (by decide +kernel) rfl (fun hx => ⟨_, rfl, hx, rfl, f3⟩))))))))
set_option maxRecDepth 100000 in
set_option maxHeartbeats 4000000 in
theorem GX12_tripAt {hi : zI} {hr : zR} {P : Int → Prop} (hM : RSm hr) (l1 : Int) (l2 : Int) 
    (F : (0 ≤ l1 ∧ l1 < 6) ∧ ((hi 53 0 l1 = -1 → ((0 ≤ l1 ∧ l1 < 256) ∧ (P (hi 42 0 l1)))) ∧ (hi 53 0 l1 ≠ -1 → ((0 ≤ l1 ∧ l1 < 6) ∧ ((l2 < hi 52 0 l1 → ((0 ≤ l1 ∧ l1 < 256) ∧ (P (hi 42 0 l1)))) ∧ (hi 52 0 l1 ≤ l2 → ((0 ≤ l1 ∧ l1 < 6) ∧ ((l2 < hi 53 0 l1 → ((zInR (301 * l1)) ∧ ((zInR ((301 * l1) + l2)) ∧ ((0 ≤ l1 ∧ l1 < 6) ∧ ((zInR (((301 * l1) + l2) - (hi 52 0 l1))) ∧ ((0 ≤ ((301 * l1) + l2) - (hi 52 0 l1) ∧ ((301 * l1) + l2) - (hi 52 0 l1) < 1806) ∧ (P (hi 51 0 (((301 * l1) + l2) - (hi 52 0 l1)))))))))) ∧ (hi 53 0 l1 ≤ l2 → ((0 ≤ l1 ∧ l1 < 256) ∧ (P (hi 42 0 l1)))))))))))) :
    W0i mX12_tripAt [.inr (some (37, 0)), .inl l1, .inl l2] hi hr P :=
  WPm.of rfl (show WP mX12_tripAt 0 [some (.inr (some (37, 0))), some (.inl l1), some (.inl l2)] [] hi hr (zQ0i hi hr P) from
  WP.aload_n (pc2 := 1) (i := 0) rfl (by decide +kernel) rfl <|
  WP.getR (pc2 := 4) rfl (by decide +kernel) zc_12 zSh_37 (by decide) rfl lf_X12_64 rfl (rs_37_29 hM) <|
  WP.iload_n (pc2 := 5) (i := 1) rfl (by decide +kernel) rfl <|
  WP.iaload (pc2 := 6) rfl (by decide +kernel) zSh_53 rfl F.1 rfl <|
  WP.iconst (pc2 := 7) (x := -1) rfl (by decide +kernel) (by decide) <|
  WP.icmp_eq (pc2 := 10) (off := 23) (tgt := 30) rfl (by decide +kernel) (by decide) (fun h7 => have f8 := F.2.1 h7
  WP.aload_n (pc2 := 31) (i := 0) rfl (by decide +kernel) rfl <|
  WP.getR (pc2 := 34) rfl (by decide +kernel) zc_12 zSh_37 (by decide) rfl lf_X12_30 rfl (rs_37_12 hM) <|
  WP.iload_n (pc2 := 35) (i := 1) rfl (by decide +kernel) rfl <|
  WP.iaload (pc2 := 36) rfl (by decide +kernel) zSh_42 rfl f8.1 rfl <|
  WP.goto (off := 22) (tgt := 58) (by decide +kernel) (by decide) <|
  WP.iret (by decide +kernel) rfl (fun hx => ⟨_, rfl, hx, rfl, rfl, f8.2⟩)) (fun h7 => have f9 := F.2.2 h7
  WP.iload_n (pc2 := 11) (i := 2) rfl (by decide +kernel) rfl <|
  WP.aload_n (pc2 := 12) (i := 0) rfl (by decide +kernel) rfl <|
  WP.getR (pc2 := 15) rfl (by decide +kernel) zc_12 zSh_37 (by decide) rfl lf_X12_61 rfl (rs_37_28 hM) <|
  WP.iload_n (pc2 := 16) (i := 1) rfl (by decide +kernel) rfl <|
  WP.iaload (pc2 := 17) rfl (by decide +kernel) zSh_52 rfl f9.1 rfl <|
  WP.icmp_lt (pc2 := 20) (off := 13) (tgt := 30) rfl (by decide +kernel) (by decide) (fun h4 => have f5 := f9.2.1 h4
  WP.aload_n (pc2 := 31) (i := 0) rfl (by decide +kernel) rfl <|
  WP.getR (pc2 := 34) rfl (by decide +kernel) zc_12 zSh_37 (by decide) rfl lf_X12_30 rfl (rs_37_12 hM) <|
  WP.iload_n (pc2 := 35) (i := 1) rfl (by decide +kernel) rfl <|
  WP.iaload (pc2 := 36) rfl (by decide +kernel) zSh_42 rfl f5.1 rfl <|
  WP.goto (off := 22) (tgt := 58) (by decide +kernel) (by decide) <|
  WP.iret (by decide +kernel) rfl (fun hx => ⟨_, rfl, hx, rfl, rfl, f5.2⟩)) (fun h4 => have f6 := f9.2.2 h4
  WP.iload_n (pc2 := 21) (i := 2) rfl (by decide +kernel) rfl <|
  WP.aload_n (pc2 := 22) (i := 0) rfl (by decide +kernel) rfl <|
  WP.getR (pc2 := 25) rfl (by decide +kernel) zc_12 zSh_37 (by decide) rfl lf_X12_64 rfl (rs_37_29 hM) <|
  WP.iload_n (pc2 := 26) (i := 1) rfl (by decide +kernel) rfl <|
  WP.iaload (pc2 := 27) rfl (by decide +kernel) zSh_53 rfl f6.1 rfl <|
  WP.icmp_lt (pc2 := 30) (off := 12) (tgt := 39) rfl (by decide +kernel) (by decide) (fun h1 => have f2 := f6.2.1 h1
  WP.aload_n (pc2 := 40) (i := 0) rfl (by decide +kernel) rfl <|
  WP.getR (pc2 := 43) rfl (by decide +kernel) zc_12 zSh_37 (by decide) rfl lf_X12_58 rfl (rs_37_27 hM) <|
  WP.sipush (pc2 := 46) (x := 301) rfl (by decide +kernel) ⟨by decide +kernel, by decide⟩ <|
  WP.iload_n (pc2 := 47) (i := 1) rfl (by decide +kernel) rfl <|
  WP.imul (pc2 := 48) rfl (by decide +kernel) f2.1 <|
  WP.iload_n (pc2 := 49) (i := 2) rfl (by decide +kernel) rfl <|
  WP.iadd (pc2 := 50) rfl (by decide +kernel) f2.2.1 <|
  WP.aload_n (pc2 := 51) (i := 0) rfl (by decide +kernel) rfl <|
  WP.getR (pc2 := 54) rfl (by decide +kernel) zc_12 zSh_37 (by decide) rfl lf_X12_61 rfl (rs_37_28 hM) <|
  WP.iload_n (pc2 := 55) (i := 1) rfl (by decide +kernel) rfl <|
  WP.iaload (pc2 := 56) rfl (by decide +kernel) zSh_52 rfl f2.2.2.1 rfl <|
  WP.isub (pc2 := 57) rfl (by decide +kernel) f2.2.2.2.1 <|
  WP.iaload (pc2 := 58) rfl (by decide +kernel) zSh_51 rfl f2.2.2.2.2.1 rfl <|
  WP.iret (by decide +kernel) rfl (fun hx => ⟨_, rfl, hx, rfl, rfl, f2.2.2.2.2.2⟩)) (fun h1 => have f3 := f6.2.2 h1
  WP.aload_n (pc2 := 31) (i := 0) rfl (by decide +kernel) rfl <|
  WP.getR (pc2 := 34) rfl (by decide +kernel) zc_12 zSh_37 (by decide) rfl lf_X12_30 rfl (rs_37_12 hM) <|
  WP.iload_n (pc2 := 35) (i := 1) rfl (by decide +kernel) rfl <|
  WP.iaload (pc2 := 36) rfl (by decide +kernel) zSh_42 rfl f3.1 rfl <|
  WP.goto (off := 22) (tgt := 58) (by decide +kernel) (by decide) <|
  WP.iret (by decide +kernel) rfl (fun hx => ⟨_, rfl, hx, rfl, rfl, f3.2⟩)))))
set_option maxRecDepth 100000 in
set_option maxHeartbeats 4000000 in
theorem GX12_isClear {hi : zI} {hr : zR} {P : Int → Prop} (l1 : Int) (l2 : Int) (l3 : Int) (l4 : Int) 
    (F : WP mX12_isClear 3 [some (.inr (some (37, 0))), some (.inl l1), some (.inl l2), some (.inl l3), some (.inl l4), some (.inl 0), none, none] [] hi hr (zQ0i hi hr P)) :
    W0i mX12_isClear [.inr (some (37, 0)), .inl l1, .inl l2, .inl l3, .inl l4] hi hr P :=
  WPm.of rfl (show WP mX12_isClear 0 [some (.inr (some (37, 0))), some (.inl l1), some (.inl l2), some (.inl l3), some (.inl l4), none, none, none] [] hi hr (zQ0i hi hr P) from
  WP.iconst (pc2 := 1) (x := 0) rfl (by decide +kernel) (by decide) <|
  WP.istore (pc2 := 3) (i := 5) rfl (by decide +kernel) (by decide) <|
  F)

set_option maxRecDepth 100000 in
set_option maxHeartbeats 4000000 in
theorem GX12_isClear_3 {hi : zI} {hr : zR} {P : Int → Prop} (l1 : Int) (l2 : Int) (l3 : Int) (l4 : Int) (a5 : Int) (u6 : Option zV) (u7 : Option zV) 
    (F : (hi 37 0 10 ≤ a5 → P 1) ∧ (a5 < hi 37 0 10 → ((a5 ≠ l1 → (W0i mX12_tripAt [.inr (some (37, 0)), .inl a5, .inl l2] hi hr (fun (x20 : Int) => (zInR (l2 + 1)) ∧ (W0i mX12_tripAt [.inr (some (37, 0)), .inl a5, .inl (l2 + 1)] hi hr (fun (x21 : Int) => (x20 = l4 → P 0) ∧ (x20 ≠ l4 → ((x21 = l4 → P 0) ∧ (x21 ≠ l4 → ((x21 ≠ l3 → ((zInR (a5 + 1)) ∧ (WP mX12_isClear 3 [some (.inr (some (37, 0))), some (.inl l1), some (.inl l2), some (.inl l3), some (.inl l4), some (.inl (a5 + 1)), some (.inl x20), some (.inl x21)] [] hi hr (zQ0i hi hr P)))) ∧ (x21 = l3 → P 0)))))))))) ∧ (a5 = l1 → ((zInR (a5 + 1)) ∧ (WP mX12_isClear 3 [some (.inr (some (37, 0))), some (.inl l1), some (.inl l2), some (.inl l3), some (.inl l4), some (.inl (a5 + 1)), u6, u7] [] hi hr (zQ0i hi hr P))))))) :
    WP mX12_isClear 3 [some (.inr (some (37, 0))), some (.inl l1), some (.inl l2), some (.inl l3), some (.inl l4), some (.inl a5), u6, u7] [] hi hr (zQ0i hi hr P) :=
  WP.iload (pc2 := 5) (i := 5) rfl (by decide +kernel) rfl <|
  WP.aload_n (pc2 := 6) (i := 0) rfl (by decide +kernel) rfl <|
  WP.getI (pc2 := 9) rfl (by decide +kernel) zc_12 zSh_37 (by decide) rfl lf_X12_195 rfl rfl <|
  WP.icmp_ge (pc2 := 12) (off := 60) (tgt := 69) rfl (by decide +kernel) (by decide) (fun h36 => have f37 := F.1 h36
  WP.iconst (pc2 := 70) (x := 1) rfl (by decide +kernel) (by decide) <|
  WP.zret (by decide +kernel) rfl (by decide) (fun hx => ⟨_, rfl, hx, rfl, rfl, f37⟩)) (fun h36 => have f38 := F.2 h36
  WP.iload (pc2 := 14) (i := 5) rfl (by decide +kernel) rfl <|
  WP.iload_n (pc2 := 15) (i := 1) rfl (by decide +kernel) rfl <|
  WP.icmp_ne (pc2 := 18) (off := 6) (tgt := 21) rfl (by decide +kernel) (by decide) (fun h33 => have f34 := f38.1 h33
  WP.aload_n (pc2 := 22) (i := 0) rfl (by decide +kernel) rfl <|
  WP.iload (pc2 := 24) (i := 5) rfl (by decide +kernel) rfl <|
  WP.iload_n (pc2 := 25) (i := 2) rfl (by decide +kernel) rfl <|
  WP.callV (y := mX12_isClear) (index := 222) (pc2 := 28) (y' := mX12_tripAt) (vs := [.inl a5, .inl l2]) rfl (by decide +kernel) okX12_tripAt ⟨by decide, by decide⟩ ⟨lm_X12_222, ivX12_tripAt⟩ zSh_37 zc_12 (Nat.le_of_ble_eq_true rfl) ⟨rfl, rfl⟩ rfl (WP.c0i f34 (fun x20 _ f32 =>
  WP.istore (pc2 := 30) (i := 6) rfl (by decide +kernel) (by decide) <|
  WP.aload_n (pc2 := 31) (i := 0) rfl (by decide +kernel) rfl <|
  WP.iload (pc2 := 33) (i := 5) rfl (by decide +kernel) rfl <|
  WP.iload_n (pc2 := 34) (i := 2) rfl (by decide +kernel) rfl <|
  WP.iconst (pc2 := 35) (x := 1) rfl (by decide +kernel) (by decide) <|
  WP.iadd (pc2 := 36) rfl (by decide +kernel) f32.1 <|
  WP.callV (y := mX12_isClear) (index := 222) (pc2 := 39) (y' := mX12_tripAt) (vs := [.inl a5, .inl (l2 + 1)]) rfl (by decide +kernel) okX12_tripAt ⟨by decide, by decide⟩ ⟨lm_X12_222, ivX12_tripAt⟩ zSh_37 zc_12 (Nat.le_of_ble_eq_true rfl) ⟨rfl, rfl⟩ rfl (WP.c0i f32.2 (fun x21 _ f31 =>
  WP.istore (pc2 := 41) (i := 7) rfl (by decide +kernel) (by decide) <|
  WP.iload (pc2 := 43) (i := 6) rfl (by decide +kernel) rfl <|
  WP.iload (pc2 := 45) (i := 4) rfl (by decide +kernel) rfl <|
  WP.icmp_eq (pc2 := 48) (off := 16) (tgt := 61) rfl (by decide +kernel) (by decide) (fun h28 => have f29 := f31.1 h28
  WP.iconst (pc2 := 62) (x := 0) rfl (by decide +kernel) (by decide) <|
  WP.zret (by decide +kernel) rfl (by decide) (fun hx => ⟨_, rfl, hx, rfl, rfl, f29⟩)) (fun h28 => have f30 := f31.2 h28
  WP.iload (pc2 := 50) (i := 7) rfl (by decide +kernel) rfl <|
  WP.iload (pc2 := 52) (i := 4) rfl (by decide +kernel) rfl <|
  WP.icmp_eq (pc2 := 55) (off := 9) (tgt := 61) rfl (by decide +kernel) (by decide) (fun h25 => have f26 := f30.1 h25
  WP.iconst (pc2 := 62) (x := 0) rfl (by decide +kernel) (by decide) <|
  WP.zret (by decide +kernel) rfl (by decide) (fun hx => ⟨_, rfl, hx, rfl, rfl, f26⟩)) (fun h25 => have f27 := f30.2 h25
  WP.iload (pc2 := 57) (i := 7) rfl (by decide +kernel) rfl <|
  WP.iload_n (pc2 := 58) (i := 3) rfl (by decide +kernel) rfl <|
  WP.icmp_ne (pc2 := 61) (off := 5) (tgt := 63) rfl (by decide +kernel) (by decide) (fun h22 => have f23 := f27.1 h22
  WP.iinc (pc2 := 66) (i := 5) (d := 1) rfl (by decide +kernel) rfl f23.1 <|
  WP.goto (off := -63) (tgt := 3) (by decide +kernel) (by decide) <|
  f23.2) (fun h22 => have f24 := f27.2 h22
  WP.iconst (pc2 := 62) (x := 0) rfl (by decide +kernel) (by decide) <|
  WP.zret (by decide +kernel) rfl (by decide) (fun hx => ⟨_, rfl, hx, rfl, rfl, f24⟩))))))))) (fun h33 => have f35 := f38.2 h33
  WP.goto (off := 45) (tgt := 63) (by decide +kernel) (by decide) <|
  WP.iinc (pc2 := 66) (i := 5) (d := 1) rfl (by decide +kernel) rfl f35.1 <|
  WP.goto (off := -63) (tgt := 3) (by decide +kernel) (by decide) <|
  f35.2))
set_option maxRecDepth 100000 in
set_option maxHeartbeats 4000000 in
theorem GX12_sends {hi : zI} {hr : zR} {P : zI → Prop} (hM : RSm hr) (l1 : Int) (l2 : Int) (l3 : Int) (l4 : Int) (l5 : Int) 
    (F : (0 ≤ hi 37 0 35 ∧ 0 < hi 37 0 17) ∧ ((0 ≤ (hi 37 0 35) % (hi 37 0 17) ∧ (hi 37 0 35) % (hi 37 0 17) < 64) ∧ ((zInR ((hi 37 0 35) + 1)) ∧ ((zand (hi 45 0 ((hi 37 0 35) % (hi 37 0 17))) 1 ≠ 1 → ((zInR ((hi 37 0 61) + 1)) ∧ ((zInR (((hi 37 0 61) + 1) + (zand (zshr (hi 45 0 ((hi 37 0 35) % (hi 37 0 17))) 1) 3))) ∧ (WP mX12_sends 69 [some (.inr (some (37, 0))), some (.inl l1), some (.inl l2), some (.inl l3), some (.inl l4), some (.inl l5), some (.inl (hi 45 0 ((hi 37 0 35) % (hi 37 0 17)))), some (.inl (hi 37 0 35)), some (.inl (((hi 37 0 61) + 1) + (zand (zshr (hi 45 0 ((hi 37 0 35) % (hi 37 0 17))) 1) 3))), some (.inl 0)] [] (zup hi 37 0 35 ((hi 37 0 35) + 1)) hr (zQ1v hr P))))) ∧ (zand (hi 45 0 ((hi 37 0 35) % (hi 37 0 17))) 1 = 1 → ((zInR ((hi 37 0 36) + 1)) ∧ (P (zup (zup hi 37 0 35 ((hi 37 0 35) + 1)) 37 0 36 ((hi 37 0 36) + 1))))))))) :
    W1v mX12_sends [.inr (some (37, 0)), .inl l1, .inl l2, .inl l3, .inl l4, .inl l5] hi hr P :=
  WPm.of rfl (show WP mX12_sends 0 [some (.inr (some (37, 0))), some (.inl l1), some (.inl l2), some (.inl l3), some (.inl l4), some (.inl l5), none, none, none, none] [] hi hr (zQ1v hr P) from
  WP.aload_n (pc2 := 1) (i := 0) rfl (by decide +kernel) rfl <|
  WP.getR (pc2 := 4) rfl (by decide +kernel) zc_12 zSh_37 (by decide) rfl lf_X12_40 rfl (rs_37_18 hM) <|
  WP.aload_n (pc2 := 5) (i := 0) rfl (by decide +kernel) rfl <|
  WP.getI (pc2 := 8) rfl (by decide +kernel) zc_12 zSh_37 (by decide) rfl lf_X12_210 rfl rfl <|
  WP.aload_n (pc2 := 9) (i := 0) rfl (by decide +kernel) rfl <|
  WP.getI (pc2 := 12) rfl (by decide +kernel) zc_12 zSh_37 (by decide) rfl lf_X12_155 rfl rfl <|
  WP.irem (pc2 := 13) rfl (by decide +kernel) F.1.1 F.1.2 <|
  WP.iaload (pc2 := 14) rfl (by decide +kernel) zSh_45 rfl F.2.1 rfl <|
  WP.istore (pc2 := 16) (i := 6) rfl (by decide +kernel) (by decide) <|
  WP.aload_n (pc2 := 17) (i := 0) rfl (by decide +kernel) rfl <|
  WP.getI (pc2 := 20) rfl (by decide +kernel) zc_12 zSh_37 (by decide) rfl lf_X12_210 rfl rfl <|
  WP.istore (pc2 := 22) (i := 7) rfl (by decide +kernel) (by decide) <|
  WP.aload_n (pc2 := 23) (i := 0) rfl (by decide +kernel) rfl <|
  WP.dup (pc2 := 24) rfl (by decide +kernel) <|
  WP.getI (pc2 := 27) rfl (by decide +kernel) zc_12 zSh_37 (by decide) rfl lf_X12_210 rfl rfl <|
  WP.iconst (pc2 := 28) (x := 1) rfl (by decide +kernel) (by decide) <|
  WP.iadd (pc2 := 29) rfl (by decide +kernel) F.2.2.1 <|
  WP.putI (pc2 := 32) rfl (by decide +kernel) zc_12 zSh_37 (by decide) rfl lf_X12_210 rfl (z_int _) rfl <|
  WP.iload (pc2 := 34) (i := 6) rfl (by decide +kernel) rfl <|
  WP.iconst (pc2 := 35) (x := 1) rfl (by decide +kernel) (by decide) <|
  WP.iand (pc2 := 36) rfl (by decide +kernel) <|
  WP.iconst (pc2 := 37) (x := 1) rfl (by decide +kernel) (by decide) <|
  WP.icmp_ne (pc2 := 40) (off := 14) (tgt := 51) rfl (by decide +kernel) (by decide) (fun h1 => have f2 := F.2.2.2.1 h1
  WP.aload_n (pc2 := 52) (i := 0) rfl (by decide +kernel) rfl <|
  WP.getI (pc2 := 55) rfl (by decide +kernel) zc_12 zSh_37 (by decide) rfl lf_X12_207 rfl (zup_f _ _ _ _ _ _ (by decide)) <|
  WP.iconst (pc2 := 56) (x := 1) rfl (by decide +kernel) (by decide) <|
  WP.iadd (pc2 := 57) rfl (by decide +kernel) f2.1 <|
  WP.iload (pc2 := 59) (i := 6) rfl (by decide +kernel) rfl <|
  WP.iconst (pc2 := 60) (x := 1) rfl (by decide +kernel) (by decide) <|
  WP.ishr (pc2 := 61) rfl (by decide +kernel) <|
  WP.iconst (pc2 := 62) (x := 3) rfl (by decide +kernel) (by decide) <|
  WP.iand (pc2 := 63) rfl (by decide +kernel) <|
  WP.iadd (pc2 := 64) rfl (by decide +kernel) f2.2.1 <|
  WP.istore (pc2 := 66) (i := 8) rfl (by decide +kernel) (by decide) <|
  WP.iconst (pc2 := 67) (x := 0) rfl (by decide +kernel) (by decide) <|
  WP.istore (pc2 := 69) (i := 9) rfl (by decide +kernel) (by decide) <|
  f2.2.2) (fun h1 => have f3 := F.2.2.2.2 h1
  WP.aload_n (pc2 := 41) (i := 0) rfl (by decide +kernel) rfl <|
  WP.dup (pc2 := 42) rfl (by decide +kernel) <|
  WP.getI (pc2 := 45) rfl (by decide +kernel) zc_12 zSh_37 (by decide) rfl lf_X12_213 rfl (zup_f _ _ _ _ _ _ (by decide)) <|
  WP.iconst (pc2 := 46) (x := 1) rfl (by decide +kernel) (by decide) <|
  WP.iadd (pc2 := 47) rfl (by decide +kernel) f3.1 <|
  WP.putI (pc2 := 50) rfl (by decide +kernel) zc_12 zSh_37 (by decide) rfl lf_X12_213 rfl (z_int _) rfl <|
  WP.vret (by decide +kernel) rfl ⟨rfl, rfl, f3.2⟩))

set_option maxRecDepth 100000 in
set_option maxHeartbeats 4000000 in
theorem GX12_sends_69 {hi : zI} {hr : zR} {P : zI → Prop} (hM : RSm hr) (l1 : Int) (l2 : Int) (l3 : Int) (l4 : Int) (l5 : Int) (a6 : Int) (a7 : Int) (a8 : Int) (a9 : Int) 
    (F : (zand (zshr a6 3) 1 < a9 → P hi) ∧ (a9 ≤ zand (zshr a6 3) 1 → ((zInR (a8 + a9)) ∧ ((0 ≤ hi 37 0 37 ∧ hi 37 0 37 < 400) ∧ ((0 ≤ hi 37 0 37 ∧ hi 37 0 37 < 400) ∧ ((0 ≤ hi 37 0 37 ∧ hi 37 0 37 < 400) ∧ ((0 ≤ hi 37 0 37 ∧ hi 37 0 37 < 400) ∧ ((0 ≤ hi 37 0 37 ∧ hi 37 0 37 < 400) ∧ ((0 ≤ hi 37 0 37 ∧ hi 37 0 37 < 400) ∧ ((0 ≤ hi 37 0 37 ∧ hi 37 0 37 < 400) ∧ ((zInR ((hi 37 0 37) + 1)) ∧ ((zInR (a9 + 1)) ∧ (WP mX12_sends 69 [some (.inr (some (37, 0))), some (.inl l1), some (.inl l2), some (.inl l3), some (.inl l4), some (.inl l5), some (.inl a6), some (.inl a7), some (.inl a8), some (.inl (a9 + 1))] [] (zup (zup (zup (zup (zup (zup (zup (zup hi 59 0 (hi 37 0 37) (a8 + a9)) 60 0 (hi 37 0 37) a7) 61 0 (hi 37 0 37) l1) 62 0 (hi 37 0 37) l2) 63 0 (hi 37 0 37) l3) 64 0 (hi 37 0 37) l4) 65 0 (hi 37 0 37) l5) 37 0 37 ((hi 37 0 37) + 1)) hr (zQ1v hr P)))))))))))))) :
    WP mX12_sends 69 [some (.inr (some (37, 0))), some (.inl l1), some (.inl l2), some (.inl l3), some (.inl l4), some (.inl l5), some (.inl a6), some (.inl a7), some (.inl a8), some (.inl a9)] [] hi hr (zQ1v hr P) :=
  WP.iload (pc2 := 71) (i := 9) rfl (by decide +kernel) rfl <|
  WP.iload (pc2 := 73) (i := 6) rfl (by decide +kernel) rfl <|
  WP.iconst (pc2 := 74) (x := 3) rfl (by decide +kernel) (by decide) <|
  WP.ishr (pc2 := 75) rfl (by decide +kernel) <|
  WP.iconst (pc2 := 76) (x := 1) rfl (by decide +kernel) (by decide) <|
  WP.iand (pc2 := 77) rfl (by decide +kernel) <|
  WP.icmp_gt (pc2 := 80) (off := 96) (tgt := 173) rfl (by decide +kernel) (by decide) (fun h4 => have f5 := F.1 h4
  WP.vret (by decide +kernel) rfl ⟨rfl, rfl, f5⟩) (fun h4 => have f6 := F.2 h4
  WP.aload_n (pc2 := 81) (i := 0) rfl (by decide +kernel) rfl <|
  WP.getR (pc2 := 84) rfl (by decide +kernel) zc_12 zSh_37 (by decide) rfl lf_X12_83 rfl (rs_37_38 hM) <|
  WP.aload_n (pc2 := 85) (i := 0) rfl (by decide +kernel) rfl <|
  WP.getI (pc2 := 88) rfl (by decide +kernel) zc_12 zSh_37 (by decide) rfl lf_X12_216 rfl rfl <|
  WP.iload (pc2 := 90) (i := 8) rfl (by decide +kernel) rfl <|
  WP.iload (pc2 := 92) (i := 9) rfl (by decide +kernel) rfl <|
  WP.iadd (pc2 := 93) rfl (by decide +kernel) f6.1 <|
  WP.iastore (pc2 := 94) rfl (by decide +kernel) zSh_59 rfl f6.2.1 <|
  WP.aload_n (pc2 := 95) (i := 0) rfl (by decide +kernel) rfl <|
  WP.getR (pc2 := 98) rfl (by decide +kernel) zc_12 zSh_37 (by decide) rfl lf_X12_86 rfl (rs_37_39 hM) <|
  WP.aload_n (pc2 := 99) (i := 0) rfl (by decide +kernel) rfl <|
  WP.getI (pc2 := 102) rfl (by decide +kernel) zc_12 zSh_37 (by decide) rfl lf_X12_216 rfl (zup_k _ _ _ _ _ _ (by decide)) <|
  WP.iload (pc2 := 104) (i := 7) rfl (by decide +kernel) rfl <|
  WP.iastore (pc2 := 105) rfl (by decide +kernel) zSh_60 rfl f6.2.2.1 <|
  WP.aload_n (pc2 := 106) (i := 0) rfl (by decide +kernel) rfl <|
  WP.getR (pc2 := 109) rfl (by decide +kernel) zc_12 zSh_37 (by decide) rfl lf_X12_89 rfl (rs_37_40 hM) <|
  WP.aload_n (pc2 := 110) (i := 0) rfl (by decide +kernel) rfl <|
  WP.getI (pc2 := 113) rfl (by decide +kernel) zc_12 zSh_37 (by decide) rfl lf_X12_216 rfl ((zup_k _ _ _ _ _ _ (by decide)).trans (zup_k _ _ _ _ _ _ (by decide))) <|
  WP.iload_n (pc2 := 114) (i := 1) rfl (by decide +kernel) rfl <|
  WP.iastore (pc2 := 115) rfl (by decide +kernel) zSh_61 rfl f6.2.2.2.1 <|
  WP.aload_n (pc2 := 116) (i := 0) rfl (by decide +kernel) rfl <|
  WP.getR (pc2 := 119) rfl (by decide +kernel) zc_12 zSh_37 (by decide) rfl lf_X12_92 rfl (rs_37_41 hM) <|
  WP.aload_n (pc2 := 120) (i := 0) rfl (by decide +kernel) rfl <|
  WP.getI (pc2 := 123) rfl (by decide +kernel) zc_12 zSh_37 (by decide) rfl lf_X12_216 rfl ((zup_k _ _ _ _ _ _ (by decide)).trans ((zup_k _ _ _ _ _ _ (by decide)).trans (zup_k _ _ _ _ _ _ (by decide)))) <|
  WP.iload_n (pc2 := 124) (i := 2) rfl (by decide +kernel) rfl <|
  WP.iastore (pc2 := 125) rfl (by decide +kernel) zSh_62 rfl f6.2.2.2.2.1 <|
  WP.aload_n (pc2 := 126) (i := 0) rfl (by decide +kernel) rfl <|
  WP.getR (pc2 := 129) rfl (by decide +kernel) zc_12 zSh_37 (by decide) rfl lf_X12_95 rfl (rs_37_42 hM) <|
  WP.aload_n (pc2 := 130) (i := 0) rfl (by decide +kernel) rfl <|
  WP.getI (pc2 := 133) rfl (by decide +kernel) zc_12 zSh_37 (by decide) rfl lf_X12_216 rfl ((zup_k _ _ _ _ _ _ (by decide)).trans ((zup_k _ _ _ _ _ _ (by decide)).trans ((zup_k _ _ _ _ _ _ (by decide)).trans (zup_k _ _ _ _ _ _ (by decide))))) <|
  WP.iload_n (pc2 := 134) (i := 3) rfl (by decide +kernel) rfl <|
  WP.iastore (pc2 := 135) rfl (by decide +kernel) zSh_63 rfl f6.2.2.2.2.2.1 <|
  WP.aload_n (pc2 := 136) (i := 0) rfl (by decide +kernel) rfl <|
  WP.getR (pc2 := 139) rfl (by decide +kernel) zc_12 zSh_37 (by decide) rfl lf_X12_98 rfl (rs_37_43 hM) <|
  WP.aload_n (pc2 := 140) (i := 0) rfl (by decide +kernel) rfl <|
  WP.getI (pc2 := 143) rfl (by decide +kernel) zc_12 zSh_37 (by decide) rfl lf_X12_216 rfl ((zup_k _ _ _ _ _ _ (by decide)).trans ((zup_k _ _ _ _ _ _ (by decide)).trans ((zup_k _ _ _ _ _ _ (by decide)).trans ((zup_k _ _ _ _ _ _ (by decide)).trans (zup_k _ _ _ _ _ _ (by decide)))))) <|
  WP.iload (pc2 := 145) (i := 4) rfl (by decide +kernel) rfl <|
  WP.iastore (pc2 := 146) rfl (by decide +kernel) zSh_64 rfl f6.2.2.2.2.2.2.1 <|
  WP.aload_n (pc2 := 147) (i := 0) rfl (by decide +kernel) rfl <|
  WP.getR (pc2 := 150) rfl (by decide +kernel) zc_12 zSh_37 (by decide) rfl lf_X12_101 rfl (rs_37_44 hM) <|
  WP.aload_n (pc2 := 151) (i := 0) rfl (by decide +kernel) rfl <|
  WP.getI (pc2 := 154) rfl (by decide +kernel) zc_12 zSh_37 (by decide) rfl lf_X12_216 rfl ((zup_k _ _ _ _ _ _ (by decide)).trans ((zup_k _ _ _ _ _ _ (by decide)).trans ((zup_k _ _ _ _ _ _ (by decide)).trans ((zup_k _ _ _ _ _ _ (by decide)).trans ((zup_k _ _ _ _ _ _ (by decide)).trans (zup_k _ _ _ _ _ _ (by decide))))))) <|
  WP.iload (pc2 := 156) (i := 5) rfl (by decide +kernel) rfl <|
  WP.iastore (pc2 := 157) rfl (by decide +kernel) zSh_65 rfl f6.2.2.2.2.2.2.2.1 <|
  WP.aload_n (pc2 := 158) (i := 0) rfl (by decide +kernel) rfl <|
  WP.dup (pc2 := 159) rfl (by decide +kernel) <|
  WP.getI (pc2 := 162) rfl (by decide +kernel) zc_12 zSh_37 (by decide) rfl lf_X12_216 rfl ((zup_k _ _ _ _ _ _ (by decide)).trans ((zup_k _ _ _ _ _ _ (by decide)).trans ((zup_k _ _ _ _ _ _ (by decide)).trans ((zup_k _ _ _ _ _ _ (by decide)).trans ((zup_k _ _ _ _ _ _ (by decide)).trans ((zup_k _ _ _ _ _ _ (by decide)).trans (zup_k _ _ _ _ _ _ (by decide)))))))) <|
  WP.iconst (pc2 := 163) (x := 1) rfl (by decide +kernel) (by decide) <|
  WP.iadd (pc2 := 164) rfl (by decide +kernel) f6.2.2.2.2.2.2.2.2.1 <|
  WP.putI (pc2 := 167) rfl (by decide +kernel) zc_12 zSh_37 (by decide) rfl lf_X12_216 rfl (z_int _) rfl <|
  WP.iinc (pc2 := 170) (i := 9) (d := 1) rfl (by decide +kernel) rfl f6.2.2.2.2.2.2.2.2.2.1 <|
  WP.goto (off := -101) (tgt := 69) (by decide +kernel) (by decide) <|
  f6.2.2.2.2.2.2.2.2.2.2)
set_option maxRecDepth 100000 in
set_option maxHeartbeats 4000000 in
theorem GX12_nextComing {hi : zI} {hr : zR} {P : Int → Prop}  
    (F : WP mX12_nextComing 4 [some (.inr (some (37, 0))), some (.inl (-1)), some (.inl 0)] [] hi hr (zQ0i hi hr P)) :
    W0i mX12_nextComing [.inr (some (37, 0))] hi hr P :=
  WPm.of rfl (show WP mX12_nextComing 0 [some (.inr (some (37, 0))), none, none] [] hi hr (zQ0i hi hr P) from
  WP.iconst (pc2 := 1) (x := -1) rfl (by decide +kernel) (by decide) <|
  WP.istore_n (pc2 := 2) (i := 1) rfl (by decide +kernel) (by decide) <|
  WP.iconst (pc2 := 3) (x := 0) rfl (by decide +kernel) (by decide) <|
  WP.istore_n (pc2 := 4) (i := 2) rfl (by decide +kernel) (by decide) <|
  F)

set_option maxRecDepth 100000 in
set_option maxHeartbeats 4000000 in
theorem GX12_nextComing_4 {hi : zI} {hr : zR} {P : Int → Prop} (hM : RSm hr) (a1 : Int) (a2 : Int) 
    (F : (hi 37 0 37 ≤ a2 → P a1) ∧ (a2 < hi 37 0 37 → ((0 ≤ a2 ∧ a2 < 400) ∧ ((hi 59 0 a2 ≠ hi 37 0 61 → ((zInR (a2 + 1)) ∧ (WP mX12_nextComing 4 [some (.inr (some (37, 0))), some (.inl a1), some (.inl (a2 + 1))] [] hi hr (zQ0i hi hr P)))) ∧ (hi 59 0 a2 = hi 37 0 61 → ((a1 = -1 → ((zInR (a2 + 1)) ∧ (WP mX12_nextComing 4 [some (.inr (some (37, 0))), some (.inl a2), some (.inl (a2 + 1))] [] hi hr (zQ0i hi hr P)))) ∧ (a1 ≠ -1 → ((0 ≤ a2 ∧ a2 < 400) ∧ ((0 ≤ a1 ∧ a1 < 400) ∧ ((hi 60 0 a1 ≤ hi 60 0 a2 → ((zInR (a2 + 1)) ∧ (WP mX12_nextComing 4 [some (.inr (some (37, 0))), some (.inl a1), some (.inl (a2 + 1))] [] hi hr (zQ0i hi hr P)))) ∧ (hi 60 0 a2 < hi 60 0 a1 → ((zInR (a2 + 1)) ∧ (WP mX12_nextComing 4 [some (.inr (some (37, 0))), some (.inl a2), some (.inl (a2 + 1))] [] hi hr (zQ0i hi hr P)))))))))))))) :
    WP mX12_nextComing 4 [some (.inr (some (37, 0))), some (.inl a1), some (.inl a2)] [] hi hr (zQ0i hi hr P) :=
  WP.iload_n (pc2 := 5) (i := 2) rfl (by decide +kernel) rfl <|
  WP.aload_n (pc2 := 6) (i := 0) rfl (by decide +kernel) rfl <|
  WP.getI (pc2 := 9) rfl (by decide +kernel) zc_12 zSh_37 (by decide) rfl lf_X12_216 rfl rfl <|
  WP.icmp_ge (pc2 := 12) (off := 44) (tgt := 53) rfl (by decide +kernel) (by decide) (fun h10 => have f11 := F.1 h10
  WP.iload_n (pc2 := 54) (i := 1) rfl (by decide +kernel) rfl <|
  WP.iret (by decide +kernel) rfl (fun hx => ⟨_, rfl, hx, rfl, rfl, f11⟩)) (fun h10 => have f12 := F.2 h10
  WP.aload_n (pc2 := 13) (i := 0) rfl (by decide +kernel) rfl <|
  WP.getR (pc2 := 16) rfl (by decide +kernel) zc_12 zSh_37 (by decide) rfl lf_X12_83 rfl (rs_37_38 hM) <|
  WP.iload_n (pc2 := 17) (i := 2) rfl (by decide +kernel) rfl <|
  WP.iaload (pc2 := 18) rfl (by decide +kernel) zSh_59 rfl f12.1 rfl <|
  WP.aload_n (pc2 := 19) (i := 0) rfl (by decide +kernel) rfl <|
  WP.getI (pc2 := 22) rfl (by decide +kernel) zc_12 zSh_37 (by decide) rfl lf_X12_207 rfl rfl <|
  WP.icmp_ne (pc2 := 25) (off := 25) (tgt := 47) rfl (by decide +kernel) (by decide) (fun h7 => have f8 := f12.2.1 h7
  WP.iinc (pc2 := 50) (i := 2) (d := 1) rfl (by decide +kernel) rfl f8.1 <|
  WP.goto (off := -46) (tgt := 4) (by decide +kernel) (by decide) <|
  f8.2) (fun h7 => have f9 := f12.2.2 h7
  WP.iload_n (pc2 := 26) (i := 1) rfl (by decide +kernel) rfl <|
  WP.iconst (pc2 := 27) (x := -1) rfl (by decide +kernel) (by decide) <|
  WP.icmp_eq (pc2 := 30) (off := 18) (tgt := 45) rfl (by decide +kernel) (by decide) (fun h4 => have f5 := f9.1 h4
  WP.iload_n (pc2 := 46) (i := 2) rfl (by decide +kernel) rfl <|
  WP.istore_n (pc2 := 47) (i := 1) rfl (by decide +kernel) (by decide) <|
  WP.iinc (pc2 := 50) (i := 2) (d := 1) rfl (by decide +kernel) rfl f5.1 <|
  WP.goto (off := -46) (tgt := 4) (by decide +kernel) (by decide) <|
  f5.2) (fun h4 => have f6 := f9.2 h4
  WP.aload_n (pc2 := 31) (i := 0) rfl (by decide +kernel) rfl <|
  WP.getR (pc2 := 34) rfl (by decide +kernel) zc_12 zSh_37 (by decide) rfl lf_X12_86 rfl (rs_37_39 hM) <|
  WP.iload_n (pc2 := 35) (i := 2) rfl (by decide +kernel) rfl <|
  WP.iaload (pc2 := 36) rfl (by decide +kernel) zSh_60 rfl f6.1 rfl <|
  WP.aload_n (pc2 := 37) (i := 0) rfl (by decide +kernel) rfl <|
  WP.getR (pc2 := 40) rfl (by decide +kernel) zc_12 zSh_37 (by decide) rfl lf_X12_86 rfl (rs_37_39 hM) <|
  WP.iload_n (pc2 := 41) (i := 1) rfl (by decide +kernel) rfl <|
  WP.iaload (pc2 := 42) rfl (by decide +kernel) zSh_60 rfl f6.2.1 rfl <|
  WP.icmp_ge (pc2 := 45) (off := 5) (tgt := 47) rfl (by decide +kernel) (by decide) (fun h1 => have f2 := f6.2.2.1 h1
  WP.iinc (pc2 := 50) (i := 2) (d := 1) rfl (by decide +kernel) rfl f2.1 <|
  WP.goto (off := -46) (tgt := 4) (by decide +kernel) (by decide) <|
  f2.2) (fun h1 => have f3 := f6.2.2.2 h1
  WP.iload_n (pc2 := 46) (i := 2) rfl (by decide +kernel) rfl <|
  WP.istore_n (pc2 := 47) (i := 1) rfl (by decide +kernel) (by decide) <|
  WP.iinc (pc2 := 50) (i := 2) (d := 1) rfl (by decide +kernel) rfl f3.1 <|
  WP.goto (off := -46) (tgt := 4) (by decide +kernel) (by decide) <|
  f3.2))))
set_option maxRecDepth 100000 in
set_option maxHeartbeats 4000000 in
theorem GX12_messagesCome {hi : zI} {hr : zR} {P : zI → Prop}  
    (F : WP mX12_messagesCome 2 [some (.inr (some (37, 0))), some (.inl 0), none] [] hi hr (zQ1v hr P)) :
    W1v mX12_messagesCome [.inr (some (37, 0))] hi hr P :=
  WPm.of rfl (show WP mX12_messagesCome 0 [some (.inr (some (37, 0))), none, none] [] hi hr (zQ1v hr P) from
  WP.iconst (pc2 := 1) (x := 0) rfl (by decide +kernel) (by decide) <|
  WP.istore_n (pc2 := 2) (i := 1) rfl (by decide +kernel) (by decide) <|
  F)

set_option maxRecDepth 100000 in
set_option maxHeartbeats 4000000 in
theorem GX12_messagesCome_2 {hi : zI} {hr : zR} {P : zI → Prop} (hM : RSm hr) (a1 : Int) 
    (F : (hi 37 0 10 ≤ a1 → (W0i mX12_nextComing [.inr (some (37, 0))] hi hr (fun (x1 : Int) => WP mX12_messagesCome 28 [some (.inr (some (37, 0))), some (.inl x1), none] [] hi hr (zQ1v hr P)))) ∧ (a1 < hi 37 0 10 → ((0 ≤ a1 ∧ a1 < 6) ∧ ((zInR (a1 + 1)) ∧ (WP mX12_messagesCome 2 [some (.inr (some (37, 0))), some (.inl (a1 + 1)), none] [] (zup hi 66 0 a1 0) hr (zQ1v hr P)))))) :
    WP mX12_messagesCome 2 [some (.inr (some (37, 0))), some (.inl a1), none] [] hi hr (zQ1v hr P) :=
  WP.iload_n (pc2 := 3) (i := 1) rfl (by decide +kernel) rfl <|
  WP.aload_n (pc2 := 4) (i := 0) rfl (by decide +kernel) rfl <|
  WP.getI (pc2 := 7) rfl (by decide +kernel) zc_12 zSh_37 (by decide) rfl lf_X12_195 rfl rfl <|
  WP.icmp_ge (pc2 := 10) (off := 16) (tgt := 23) rfl (by decide +kernel) (by decide) (fun h3 => have f4 := F.1 h3
  WP.aload_n (pc2 := 24) (i := 0) rfl (by decide +kernel) rfl <|
  WP.callV (y := mX12_messagesCome) (index := 236) (pc2 := 27) (y' := mX12_nextComing) (vs := []) rfl (by decide +kernel) okX12_nextComing ⟨by decide, by decide⟩ ⟨lm_X12_236, ivX12_nextComing⟩ zSh_37 zc_12 (Nat.le_of_ble_eq_true rfl) ⟨rfl, rfl⟩ rfl (WP.c0i f4 (fun x1 _ f2 =>
  WP.istore_n (pc2 := 28) (i := 1) rfl (by decide +kernel) (by decide) <|
  f2))) (fun h3 => have f5 := F.2 h3
  WP.aload_n (pc2 := 11) (i := 0) rfl (by decide +kernel) rfl <|
  WP.getR (pc2 := 14) rfl (by decide +kernel) zc_12 zSh_37 (by decide) rfl lf_X12_104 rfl (rs_37_45 hM) <|
  WP.iload_n (pc2 := 15) (i := 1) rfl (by decide +kernel) rfl <|
  WP.iconst (pc2 := 16) (x := 0) rfl (by decide +kernel) (by decide) <|
  WP.bastore (pc2 := 17) rfl (by decide +kernel) zSh_66 (Or.inr ⟨rfl, by decide, by decide⟩) rfl f5.1 <|
  WP.iinc (pc2 := 20) (i := 1) (d := 1) rfl (by decide +kernel) rfl f5.2.1 <|
  WP.goto (off := -18) (tgt := 2) (by decide +kernel) (by decide) <|
  f5.2.2)

set_option maxRecDepth 100000 in
set_option maxHeartbeats 4000000 in
theorem GX12_messagesCome_28 {hi : zI} {hr : zR} {P : zI → Prop} (hM : RSm hr) (a1 : Int) (u2 : Option zV) 
    (F : (a1 = -1 → (WP mX12_messagesCome 217 [some (.inr (some (37, 0))), some (.inl 0), u2] [] hi hr (zQ1v hr P))) ∧ (a1 ≠ -1 → ((0 ≤ a1 ∧ a1 < 400) ∧ ((0 ≤ a1 ∧ a1 < 400) ∧ ((hi 61 0 a1 ≠ 0 → ((0 ≤ a1 ∧ a1 < 400) ∧ ((0 ≤ a1 ∧ a1 < 400) ∧ (W1v mX12_reporting [.inr (some (37, 0)), .inl (hi 62 0 a1), .inl (hi 63 0 a1), .inl (hi 64 0 a1)] hi hr (fun (hi20 : zI) => (zInR ((hi20 37 0 37) - 1)) ∧ ((0 ≤ (hi20 37 0 37) - 1 ∧ (hi20 37 0 37) - 1 < 400) ∧ ((0 ≤ a1 ∧ a1 < 400) ∧ ((0 ≤ (hi20 37 0 37) - 1 ∧ (hi20 37 0 37) - 1 < 400) ∧ ((0 ≤ a1 ∧ a1 < 400) ∧ ((0 ≤ (hi20 37 0 37) - 1 ∧ (hi20 37 0 37) - 1 < 400) ∧ ((0 ≤ a1 ∧ a1 < 400) ∧ ((0 ≤ (hi20 37 0 37) - 1 ∧ (hi20 37 0 37) - 1 < 400) ∧ ((0 ≤ a1 ∧ a1 < 400) ∧ ((0 ≤ (hi20 37 0 37) - 1 ∧ (hi20 37 0 37) - 1 < 400) ∧ ((0 ≤ a1 ∧ a1 < 400) ∧ ((0 ≤ (hi20 37 0 37) - 1 ∧ (hi20 37 0 37) - 1 < 400) ∧ ((0 ≤ a1 ∧ a1 < 400) ∧ ((0 ≤ (hi20 37 0 37) - 1 ∧ (hi20 37 0 37) - 1 < 400) ∧ ((0 ≤ a1 ∧ a1 < 400) ∧ (W0i mX12_nextComing [.inr (some (37, 0))] (zup (zup (zup (zup (zup (zup (zup (zup hi20 37 0 37 ((hi20 37 0 37) - 1)) 59 0 a1 (hi20 59 0 ((hi20 37 0 37) - 1))) 60 0 a1 (hi20 60 0 ((hi20 37 0 37) - 1))) 61 0 a1 (hi20 61 0 ((hi20 37 0 37) - 1))) 62 0 a1 (hi20 62 0 ((hi20 37 0 37) - 1))) 63 0 a1 (hi20 63 0 ((hi20 37 0 37) - 1))) 64 0 a1 (hi20 64 0 ((hi20 37 0 37) - 1))) 65 0 a1 (hi20 65 0 ((hi20 37 0 37) - 1))) hr (fun (x21 : Int) => WP mX12_messagesCome 28 [some (.inr (some (37, 0))), some (.inl x21), some (.inl (hi 62 0 a1))] [] (zup (zup (zup (zup (zup (zup (zup (zup hi20 37 0 37 ((hi20 37 0 37) - 1)) 59 0 a1 (hi20 59 0 ((hi20 37 0 37) - 1))) 60 0 a1 (hi20 60 0 ((hi20 37 0 37) - 1))) 61 0 a1 (hi20 61 0 ((hi20 37 0 37) - 1))) 62 0 a1 (hi20 62 0 ((hi20 37 0 37) - 1))) 63 0 a1 (hi20 63 0 ((hi20 37 0 37) - 1))) 64 0 a1 (hi20 64 0 ((hi20 37 0 37) - 1))) 65 0 a1 (hi20 65 0 ((hi20 37 0 37) - 1))) hr (zQ1v hr P)))))))))))))))))))))) ∧ (hi 61 0 a1 = 0 → ((0 ≤ a1 ∧ a1 < 400) ∧ ((0 ≤ a1 ∧ a1 < 400) ∧ ((0 ≤ a1 ∧ a1 < 400) ∧ (W1v mX12_granting [.inr (some (37, 0)), .inl (hi 62 0 a1), .inl (hi 63 0 a1), .inl (hi 64 0 a1), .inl (hi 65 0 a1)] hi hr (fun (hi24 : zI) => (zInR ((hi24 37 0 37) - 1)) ∧ ((0 ≤ (hi24 37 0 37) - 1 ∧ (hi24 37 0 37) - 1 < 400) ∧ ((0 ≤ a1 ∧ a1 < 400) ∧ ((0 ≤ (hi24 37 0 37) - 1 ∧ (hi24 37 0 37) - 1 < 400) ∧ ((0 ≤ a1 ∧ a1 < 400) ∧ ((0 ≤ (hi24 37 0 37) - 1 ∧ (hi24 37 0 37) - 1 < 400) ∧ ((0 ≤ a1 ∧ a1 < 400) ∧ ((0 ≤ (hi24 37 0 37) - 1 ∧ (hi24 37 0 37) - 1 < 400) ∧ ((0 ≤ a1 ∧ a1 < 400) ∧ ((0 ≤ (hi24 37 0 37) - 1 ∧ (hi24 37 0 37) - 1 < 400) ∧ ((0 ≤ a1 ∧ a1 < 400) ∧ ((0 ≤ (hi24 37 0 37) - 1 ∧ (hi24 37 0 37) - 1 < 400) ∧ ((0 ≤ a1 ∧ a1 < 400) ∧ ((0 ≤ (hi24 37 0 37) - 1 ∧ (hi24 37 0 37) - 1 < 400) ∧ ((0 ≤ a1 ∧ a1 < 400) ∧ (W0i mX12_nextComing [.inr (some (37, 0))] (zup (zup (zup (zup (zup (zup (zup (zup hi24 37 0 37 ((hi24 37 0 37) - 1)) 59 0 a1 (hi24 59 0 ((hi24 37 0 37) - 1))) 60 0 a1 (hi24 60 0 ((hi24 37 0 37) - 1))) 61 0 a1 (hi24 61 0 ((hi24 37 0 37) - 1))) 62 0 a1 (hi24 62 0 ((hi24 37 0 37) - 1))) 63 0 a1 (hi24 63 0 ((hi24 37 0 37) - 1))) 64 0 a1 (hi24 64 0 ((hi24 37 0 37) - 1))) 65 0 a1 (hi24 65 0 ((hi24 37 0 37) - 1))) hr (fun (x25 : Int) => WP mX12_messagesCome 28 [some (.inr (some (37, 0))), some (.inl x25), some (.inl (hi 62 0 a1))] [] (zup (zup (zup (zup (zup (zup (zup (zup hi24 37 0 37 ((hi24 37 0 37) - 1)) 59 0 a1 (hi24 59 0 ((hi24 37 0 37) - 1))) 60 0 a1 (hi24 60 0 ((hi24 37 0 37) - 1))) 61 0 a1 (hi24 61 0 ((hi24 37 0 37) - 1))) 62 0 a1 (hi24 62 0 ((hi24 37 0 37) - 1))) 63 0 a1 (hi24 63 0 ((hi24 37 0 37) - 1))) 64 0 a1 (hi24 64 0 ((hi24 37 0 37) - 1))) 65 0 a1 (hi24 65 0 ((hi24 37 0 37) - 1))) hr (zQ1v hr P)))))))))))))))))))))))))))) :
    WP mX12_messagesCome 28 [some (.inr (some (37, 0))), some (.inl a1), u2] [] hi hr (zQ1v hr P) :=
  WP.iload_n (pc2 := 29) (i := 1) rfl (by decide +kernel) rfl <|
  WP.iconst (pc2 := 30) (x := -1) rfl (by decide +kernel) (by decide) <|
  WP.icmp_eq (pc2 := 33) (off := 185) (tgt := 215) rfl (by decide +kernel) (by decide) (fun h31 => have f32 := F.1 h31
  WP.iconst (pc2 := 216) (x := 0) rfl (by decide +kernel) (by decide) <|
  WP.istore_n (pc2 := 217) (i := 1) rfl (by decide +kernel) (by decide) <|
  f32) (fun h31 => have f33 := F.2 h31
  WP.aload_n (pc2 := 34) (i := 0) rfl (by decide +kernel) rfl <|
  WP.getR (pc2 := 37) rfl (by decide +kernel) zc_12 zSh_37 (by decide) rfl lf_X12_92 rfl (rs_37_41 hM) <|
  WP.iload_n (pc2 := 38) (i := 1) rfl (by decide +kernel) rfl <|
  WP.iaload (pc2 := 39) rfl (by decide +kernel) zSh_62 rfl f33.1 rfl <|
  WP.istore_n (pc2 := 40) (i := 2) rfl (by decide +kernel) (by decide) <|
  WP.aload_n (pc2 := 41) (i := 0) rfl (by decide +kernel) rfl <|
  WP.getR (pc2 := 44) rfl (by decide +kernel) zc_12 zSh_37 (by decide) rfl lf_X12_89 rfl (rs_37_40 hM) <|
  WP.iload_n (pc2 := 45) (i := 1) rfl (by decide +kernel) rfl <|
  WP.iaload (pc2 := 46) rfl (by decide +kernel) zSh_61 rfl f33.2.1 rfl <|
  WP.if_ne (pc2 := 49) (off := 29) (tgt := 75) rfl (by decide +kernel) (by decide) (fun h28 => have f29 := f33.2.2.1 h28
  WP.aload_n (pc2 := 76) (i := 0) rfl (by decide +kernel) rfl <|
  WP.iload_n (pc2 := 77) (i := 2) rfl (by decide +kernel) rfl <|
  WP.aload_n (pc2 := 78) (i := 0) rfl (by decide +kernel) rfl <|
  WP.getR (pc2 := 81) rfl (by decide +kernel) zc_12 zSh_37 (by decide) rfl lf_X12_95 rfl (rs_37_42 hM) <|
  WP.iload_n (pc2 := 82) (i := 1) rfl (by decide +kernel) rfl <|
  WP.iaload (pc2 := 83) rfl (by decide +kernel) zSh_63 rfl f29.1 rfl <|
  WP.aload_n (pc2 := 84) (i := 0) rfl (by decide +kernel) rfl <|
  WP.getR (pc2 := 87) rfl (by decide +kernel) zc_12 zSh_37 (by decide) rfl lf_X12_98 rfl (rs_37_43 hM) <|
  WP.iload_n (pc2 := 88) (i := 1) rfl (by decide +kernel) rfl <|
  WP.iaload (pc2 := 89) rfl (by decide +kernel) zSh_64 rfl f29.2.1 rfl <|
  WP.callV (y := mX12_messagesCome) (index := 243) (pc2 := 92) (y' := mX12_reporting) (vs := [.inl (hi 62 0 a1), .inl (hi 63 0 a1), .inl (hi 64 0 a1)]) rfl (by decide +kernel) okX12_reporting ⟨by decide, by decide⟩ ⟨lm_X12_243, ivX12_reporting⟩ zSh_37 zc_12 (Nat.le_of_ble_eq_true rfl) ⟨rfl, rfl⟩ rfl (WP.c1v f29.2.2 (fun hi20 f23 =>
  WP.aload_n (pc2 := 93) (i := 0) rfl (by decide +kernel) rfl <|
  WP.dup (pc2 := 94) rfl (by decide +kernel) <|
  WP.getI (pc2 := 97) rfl (by decide +kernel) zc_12 zSh_37 (by decide) rfl lf_X12_216 rfl rfl <|
  WP.iconst (pc2 := 98) (x := 1) rfl (by decide +kernel) (by decide) <|
  WP.isub (pc2 := 99) rfl (by decide +kernel) f23.1 <|
  WP.putI (pc2 := 102) rfl (by decide +kernel) zc_12 zSh_37 (by decide) rfl lf_X12_216 rfl (z_int _) rfl <|
  WP.aload_n (pc2 := 103) (i := 0) rfl (by decide +kernel) rfl <|
  WP.getR (pc2 := 106) rfl (by decide +kernel) zc_12 zSh_37 (by decide) rfl lf_X12_83 rfl (rs_37_38 hM) <|
  WP.iload_n (pc2 := 107) (i := 1) rfl (by decide +kernel) rfl <|
  WP.aload_n (pc2 := 108) (i := 0) rfl (by decide +kernel) rfl <|
  WP.getR (pc2 := 111) rfl (by decide +kernel) zc_12 zSh_37 (by decide) rfl lf_X12_83 rfl (rs_37_38 hM) <|
  WP.aload_n (pc2 := 112) (i := 0) rfl (by decide +kernel) rfl <|
  WP.getI (pc2 := 115) rfl (by decide +kernel) zc_12 zSh_37 (by decide) rfl lf_X12_216 rfl (zup_s _ _ _ _ _) <|
  WP.iaload (pc2 := 116) rfl (by decide +kernel) zSh_59 rfl f23.2.1 (zup_k _ _ _ _ _ _ (by decide)) <|
  WP.iastore (pc2 := 117) rfl (by decide +kernel) zSh_59 rfl f23.2.2.1 <|
  WP.aload_n (pc2 := 118) (i := 0) rfl (by decide +kernel) rfl <|
  WP.getR (pc2 := 121) rfl (by decide +kernel) zc_12 zSh_37 (by decide) rfl lf_X12_86 rfl (rs_37_39 hM) <|
  WP.iload_n (pc2 := 122) (i := 1) rfl (by decide +kernel) rfl <|
  WP.aload_n (pc2 := 123) (i := 0) rfl (by decide +kernel) rfl <|
  WP.getR (pc2 := 126) rfl (by decide +kernel) zc_12 zSh_37 (by decide) rfl lf_X12_86 rfl (rs_37_39 hM) <|
  WP.aload_n (pc2 := 127) (i := 0) rfl (by decide +kernel) rfl <|
  WP.getI (pc2 := 130) rfl (by decide +kernel) zc_12 zSh_37 (by decide) rfl lf_X12_216 rfl ((zup_k _ _ _ _ _ _ (by decide)).trans (zup_s _ _ _ _ _)) <|
  WP.iaload (pc2 := 131) rfl (by decide +kernel) zSh_60 rfl f23.2.2.2.1 ((zup_k _ _ _ _ _ _ (by decide)).trans (zup_k _ _ _ _ _ _ (by decide))) <|
  WP.iastore (pc2 := 132) rfl (by decide +kernel) zSh_60 rfl f23.2.2.2.2.1 <|
  WP.aload_n (pc2 := 133) (i := 0) rfl (by decide +kernel) rfl <|
  WP.getR (pc2 := 136) rfl (by decide +kernel) zc_12 zSh_37 (by decide) rfl lf_X12_89 rfl (rs_37_40 hM) <|
  WP.iload_n (pc2 := 137) (i := 1) rfl (by decide +kernel) rfl <|
  WP.aload_n (pc2 := 138) (i := 0) rfl (by decide +kernel) rfl <|
  WP.getR (pc2 := 141) rfl (by decide +kernel) zc_12 zSh_37 (by decide) rfl lf_X12_89 rfl (rs_37_40 hM) <|
  WP.aload_n (pc2 := 142) (i := 0) rfl (by decide +kernel) rfl <|
  WP.getI (pc2 := 145) rfl (by decide +kernel) zc_12 zSh_37 (by decide) rfl lf_X12_216 rfl ((zup_k _ _ _ _ _ _ (by decide)).trans ((zup_k _ _ _ _ _ _ (by decide)).trans (zup_s _ _ _ _ _))) <|
  WP.iaload (pc2 := 146) rfl (by decide +kernel) zSh_61 rfl f23.2.2.2.2.2.1 ((zup_k _ _ _ _ _ _ (by decide)).trans ((zup_k _ _ _ _ _ _ (by decide)).trans (zup_k _ _ _ _ _ _ (by decide)))) <|
  WP.iastore (pc2 := 147) rfl (by decide +kernel) zSh_61 rfl f23.2.2.2.2.2.2.1 <|
  WP.aload_n (pc2 := 148) (i := 0) rfl (by decide +kernel) rfl <|
  WP.getR (pc2 := 151) rfl (by decide +kernel) zc_12 zSh_37 (by decide) rfl lf_X12_92 rfl (rs_37_41 hM) <|
  WP.iload_n (pc2 := 152) (i := 1) rfl (by decide +kernel) rfl <|
  WP.aload_n (pc2 := 153) (i := 0) rfl (by decide +kernel) rfl <|
  WP.getR (pc2 := 156) rfl (by decide +kernel) zc_12 zSh_37 (by decide) rfl lf_X12_92 rfl (rs_37_41 hM) <|
  WP.aload_n (pc2 := 157) (i := 0) rfl (by decide +kernel) rfl <|
  WP.getI (pc2 := 160) rfl (by decide +kernel) zc_12 zSh_37 (by decide) rfl lf_X12_216 rfl ((zup_k _ _ _ _ _ _ (by decide)).trans ((zup_k _ _ _ _ _ _ (by decide)).trans ((zup_k _ _ _ _ _ _ (by decide)).trans (zup_s _ _ _ _ _)))) <|
  WP.iaload (pc2 := 161) rfl (by decide +kernel) zSh_62 rfl f23.2.2.2.2.2.2.2.1 ((zup_k _ _ _ _ _ _ (by decide)).trans ((zup_k _ _ _ _ _ _ (by decide)).trans ((zup_k _ _ _ _ _ _ (by decide)).trans (zup_k _ _ _ _ _ _ (by decide))))) <|
  WP.iastore (pc2 := 162) rfl (by decide +kernel) zSh_62 rfl f23.2.2.2.2.2.2.2.2.1 <|
  WP.aload_n (pc2 := 163) (i := 0) rfl (by decide +kernel) rfl <|
  WP.getR (pc2 := 166) rfl (by decide +kernel) zc_12 zSh_37 (by decide) rfl lf_X12_95 rfl (rs_37_42 hM) <|
  WP.iload_n (pc2 := 167) (i := 1) rfl (by decide +kernel) rfl <|
  WP.aload_n (pc2 := 168) (i := 0) rfl (by decide +kernel) rfl <|
  WP.getR (pc2 := 171) rfl (by decide +kernel) zc_12 zSh_37 (by decide) rfl lf_X12_95 rfl (rs_37_42 hM) <|
  WP.aload_n (pc2 := 172) (i := 0) rfl (by decide +kernel) rfl <|
  WP.getI (pc2 := 175) rfl (by decide +kernel) zc_12 zSh_37 (by decide) rfl lf_X12_216 rfl ((zup_k _ _ _ _ _ _ (by decide)).trans ((zup_k _ _ _ _ _ _ (by decide)).trans ((zup_k _ _ _ _ _ _ (by decide)).trans ((zup_k _ _ _ _ _ _ (by decide)).trans (zup_s _ _ _ _ _))))) <|
  WP.iaload (pc2 := 176) rfl (by decide +kernel) zSh_63 rfl f23.2.2.2.2.2.2.2.2.2.1 ((zup_k _ _ _ _ _ _ (by decide)).trans ((zup_k _ _ _ _ _ _ (by decide)).trans ((zup_k _ _ _ _ _ _ (by decide)).trans ((zup_k _ _ _ _ _ _ (by decide)).trans (zup_k _ _ _ _ _ _ (by decide)))))) <|
  WP.iastore (pc2 := 177) rfl (by decide +kernel) zSh_63 rfl f23.2.2.2.2.2.2.2.2.2.2.1 <|
  WP.aload_n (pc2 := 178) (i := 0) rfl (by decide +kernel) rfl <|
  WP.getR (pc2 := 181) rfl (by decide +kernel) zc_12 zSh_37 (by decide) rfl lf_X12_98 rfl (rs_37_43 hM) <|
  WP.iload_n (pc2 := 182) (i := 1) rfl (by decide +kernel) rfl <|
  WP.aload_n (pc2 := 183) (i := 0) rfl (by decide +kernel) rfl <|
  WP.getR (pc2 := 186) rfl (by decide +kernel) zc_12 zSh_37 (by decide) rfl lf_X12_98 rfl (rs_37_43 hM) <|
  WP.aload_n (pc2 := 187) (i := 0) rfl (by decide +kernel) rfl <|
  WP.getI (pc2 := 190) rfl (by decide +kernel) zc_12 zSh_37 (by decide) rfl lf_X12_216 rfl ((zup_k _ _ _ _ _ _ (by decide)).trans ((zup_k _ _ _ _ _ _ (by decide)).trans ((zup_k _ _ _ _ _ _ (by decide)).trans ((zup_k _ _ _ _ _ _ (by decide)).trans ((zup_k _ _ _ _ _ _ (by decide)).trans (zup_s _ _ _ _ _)))))) <|
  WP.iaload (pc2 := 191) rfl (by decide +kernel) zSh_64 rfl f23.2.2.2.2.2.2.2.2.2.2.2.1 ((zup_k _ _ _ _ _ _ (by decide)).trans ((zup_k _ _ _ _ _ _ (by decide)).trans ((zup_k _ _ _ _ _ _ (by decide)).trans ((zup_k _ _ _ _ _ _ (by decide)).trans ((zup_k _ _ _ _ _ _ (by decide)).trans (zup_k _ _ _ _ _ _ (by decide))))))) <|
  WP.iastore (pc2 := 192) rfl (by decide +kernel) zSh_64 rfl f23.2.2.2.2.2.2.2.2.2.2.2.2.1 <|
  WP.aload_n (pc2 := 193) (i := 0) rfl (by decide +kernel) rfl <|
  WP.getR (pc2 := 196) rfl (by decide +kernel) zc_12 zSh_37 (by decide) rfl lf_X12_101 rfl (rs_37_44 hM) <|
  WP.iload_n (pc2 := 197) (i := 1) rfl (by decide +kernel) rfl <|
  WP.aload_n (pc2 := 198) (i := 0) rfl (by decide +kernel) rfl <|
  WP.getR (pc2 := 201) rfl (by decide +kernel) zc_12 zSh_37 (by decide) rfl lf_X12_101 rfl (rs_37_44 hM) <|
  WP.aload_n (pc2 := 202) (i := 0) rfl (by decide +kernel) rfl <|
  WP.getI (pc2 := 205) rfl (by decide +kernel) zc_12 zSh_37 (by decide) rfl lf_X12_216 rfl ((zup_k _ _ _ _ _ _ (by decide)).trans ((zup_k _ _ _ _ _ _ (by decide)).trans ((zup_k _ _ _ _ _ _ (by decide)).trans ((zup_k _ _ _ _ _ _ (by decide)).trans ((zup_k _ _ _ _ _ _ (by decide)).trans ((zup_k _ _ _ _ _ _ (by decide)).trans (zup_s _ _ _ _ _))))))) <|
  WP.iaload (pc2 := 206) rfl (by decide +kernel) zSh_65 rfl f23.2.2.2.2.2.2.2.2.2.2.2.2.2.1 ((zup_k _ _ _ _ _ _ (by decide)).trans ((zup_k _ _ _ _ _ _ (by decide)).trans ((zup_k _ _ _ _ _ _ (by decide)).trans ((zup_k _ _ _ _ _ _ (by decide)).trans ((zup_k _ _ _ _ _ _ (by decide)).trans ((zup_k _ _ _ _ _ _ (by decide)).trans (zup_k _ _ _ _ _ _ (by decide)))))))) <|
  WP.iastore (pc2 := 207) rfl (by decide +kernel) zSh_65 rfl f23.2.2.2.2.2.2.2.2.2.2.2.2.2.2.1 <|
  WP.aload_n (pc2 := 208) (i := 0) rfl (by decide +kernel) rfl <|
  WP.callV (y := mX12_messagesCome) (index := 236) (pc2 := 211) (y' := mX12_nextComing) (vs := []) rfl (by decide +kernel) okX12_nextComing ⟨by decide, by decide⟩ ⟨lm_X12_236, ivX12_nextComing⟩ zSh_37 zc_12 (Nat.le_of_ble_eq_true rfl) ⟨rfl, rfl⟩ rfl (WP.c0i f23.2.2.2.2.2.2.2.2.2.2.2.2.2.2.2 (fun x21 _ f22 =>
  WP.istore_n (pc2 := 212) (i := 1) rfl (by decide +kernel) (by decide) <|
  WP.goto (off := -184) (tgt := 28) (by decide +kernel) (by decide) <|
  f22))))) (fun h28 => have f30 := f33.2.2.2 h28
  WP.aload_n (pc2 := 50) (i := 0) rfl (by decide +kernel) rfl <|
  WP.iload_n (pc2 := 51) (i := 2) rfl (by decide +kernel) rfl <|
  WP.aload_n (pc2 := 52) (i := 0) rfl (by decide +kernel) rfl <|
  WP.getR (pc2 := 55) rfl (by decide +kernel) zc_12 zSh_37 (by decide) rfl lf_X12_95 rfl (rs_37_42 hM) <|
  WP.iload_n (pc2 := 56) (i := 1) rfl (by decide +kernel) rfl <|
  WP.iaload (pc2 := 57) rfl (by decide +kernel) zSh_63 rfl f30.1 rfl <|
  WP.aload_n (pc2 := 58) (i := 0) rfl (by decide +kernel) rfl <|
  WP.getR (pc2 := 61) rfl (by decide +kernel) zc_12 zSh_37 (by decide) rfl lf_X12_98 rfl (rs_37_43 hM) <|
  WP.iload_n (pc2 := 62) (i := 1) rfl (by decide +kernel) rfl <|
  WP.iaload (pc2 := 63) rfl (by decide +kernel) zSh_64 rfl f30.2.1 rfl <|
  WP.aload_n (pc2 := 64) (i := 0) rfl (by decide +kernel) rfl <|
  WP.getR (pc2 := 67) rfl (by decide +kernel) zc_12 zSh_37 (by decide) rfl lf_X12_101 rfl (rs_37_44 hM) <|
  WP.iload_n (pc2 := 68) (i := 1) rfl (by decide +kernel) rfl <|
  WP.iaload (pc2 := 69) rfl (by decide +kernel) zSh_65 rfl f30.2.2.1 rfl <|
  WP.callV (y := mX12_messagesCome) (index := 239) (pc2 := 72) (y' := mX12_granting) (vs := [.inl (hi 62 0 a1), .inl (hi 63 0 a1), .inl (hi 64 0 a1), .inl (hi 65 0 a1)]) rfl (by decide +kernel) okX12_granting ⟨by decide, by decide⟩ ⟨lm_X12_239, ivX12_granting⟩ zSh_37 zc_12 (Nat.le_of_ble_eq_true rfl) ⟨rfl, rfl⟩ rfl (WP.c1v f30.2.2.2 (fun hi24 f27 =>
  WP.goto (off := 20) (tgt := 92) (by decide +kernel) (by decide) <|
  WP.aload_n (pc2 := 93) (i := 0) rfl (by decide +kernel) rfl <|
  WP.dup (pc2 := 94) rfl (by decide +kernel) <|
  WP.getI (pc2 := 97) rfl (by decide +kernel) zc_12 zSh_37 (by decide) rfl lf_X12_216 rfl rfl <|
  WP.iconst (pc2 := 98) (x := 1) rfl (by decide +kernel) (by decide) <|
  WP.isub (pc2 := 99) rfl (by decide +kernel) f27.1 <|
  WP.putI (pc2 := 102) rfl (by decide +kernel) zc_12 zSh_37 (by decide) rfl lf_X12_216 rfl (z_int _) rfl <|
  WP.aload_n (pc2 := 103) (i := 0) rfl (by decide +kernel) rfl <|
  WP.getR (pc2 := 106) rfl (by decide +kernel) zc_12 zSh_37 (by decide) rfl lf_X12_83 rfl (rs_37_38 hM) <|
  WP.iload_n (pc2 := 107) (i := 1) rfl (by decide +kernel) rfl <|
  WP.aload_n (pc2 := 108) (i := 0) rfl (by decide +kernel) rfl <|
  WP.getR (pc2 := 111) rfl (by decide +kernel) zc_12 zSh_37 (by decide) rfl lf_X12_83 rfl (rs_37_38 hM) <|
  WP.aload_n (pc2 := 112) (i := 0) rfl (by decide +kernel) rfl <|
  WP.getI (pc2 := 115) rfl (by decide +kernel) zc_12 zSh_37 (by decide) rfl lf_X12_216 rfl (zup_s _ _ _ _ _) <|
  WP.iaload (pc2 := 116) rfl (by decide +kernel) zSh_59 rfl f27.2.1 (zup_k _ _ _ _ _ _ (by decide)) <|
  WP.iastore (pc2 := 117) rfl (by decide +kernel) zSh_59 rfl f27.2.2.1 <|
  WP.aload_n (pc2 := 118) (i := 0) rfl (by decide +kernel) rfl <|
  WP.getR (pc2 := 121) rfl (by decide +kernel) zc_12 zSh_37 (by decide) rfl lf_X12_86 rfl (rs_37_39 hM) <|
  WP.iload_n (pc2 := 122) (i := 1) rfl (by decide +kernel) rfl <|
  WP.aload_n (pc2 := 123) (i := 0) rfl (by decide +kernel) rfl <|
  WP.getR (pc2 := 126) rfl (by decide +kernel) zc_12 zSh_37 (by decide) rfl lf_X12_86 rfl (rs_37_39 hM) <|
  WP.aload_n (pc2 := 127) (i := 0) rfl (by decide +kernel) rfl <|
  WP.getI (pc2 := 130) rfl (by decide +kernel) zc_12 zSh_37 (by decide) rfl lf_X12_216 rfl ((zup_k _ _ _ _ _ _ (by decide)).trans (zup_s _ _ _ _ _)) <|
  WP.iaload (pc2 := 131) rfl (by decide +kernel) zSh_60 rfl f27.2.2.2.1 ((zup_k _ _ _ _ _ _ (by decide)).trans (zup_k _ _ _ _ _ _ (by decide))) <|
  WP.iastore (pc2 := 132) rfl (by decide +kernel) zSh_60 rfl f27.2.2.2.2.1 <|
  WP.aload_n (pc2 := 133) (i := 0) rfl (by decide +kernel) rfl <|
  WP.getR (pc2 := 136) rfl (by decide +kernel) zc_12 zSh_37 (by decide) rfl lf_X12_89 rfl (rs_37_40 hM) <|
  WP.iload_n (pc2 := 137) (i := 1) rfl (by decide +kernel) rfl <|
  WP.aload_n (pc2 := 138) (i := 0) rfl (by decide +kernel) rfl <|
  WP.getR (pc2 := 141) rfl (by decide +kernel) zc_12 zSh_37 (by decide) rfl lf_X12_89 rfl (rs_37_40 hM) <|
  WP.aload_n (pc2 := 142) (i := 0) rfl (by decide +kernel) rfl <|
  WP.getI (pc2 := 145) rfl (by decide +kernel) zc_12 zSh_37 (by decide) rfl lf_X12_216 rfl ((zup_k _ _ _ _ _ _ (by decide)).trans ((zup_k _ _ _ _ _ _ (by decide)).trans (zup_s _ _ _ _ _))) <|
  WP.iaload (pc2 := 146) rfl (by decide +kernel) zSh_61 rfl f27.2.2.2.2.2.1 ((zup_k _ _ _ _ _ _ (by decide)).trans ((zup_k _ _ _ _ _ _ (by decide)).trans (zup_k _ _ _ _ _ _ (by decide)))) <|
  WP.iastore (pc2 := 147) rfl (by decide +kernel) zSh_61 rfl f27.2.2.2.2.2.2.1 <|
  WP.aload_n (pc2 := 148) (i := 0) rfl (by decide +kernel) rfl <|
  WP.getR (pc2 := 151) rfl (by decide +kernel) zc_12 zSh_37 (by decide) rfl lf_X12_92 rfl (rs_37_41 hM) <|
  WP.iload_n (pc2 := 152) (i := 1) rfl (by decide +kernel) rfl <|
  WP.aload_n (pc2 := 153) (i := 0) rfl (by decide +kernel) rfl <|
  WP.getR (pc2 := 156) rfl (by decide +kernel) zc_12 zSh_37 (by decide) rfl lf_X12_92 rfl (rs_37_41 hM) <|
  WP.aload_n (pc2 := 157) (i := 0) rfl (by decide +kernel) rfl <|
  WP.getI (pc2 := 160) rfl (by decide +kernel) zc_12 zSh_37 (by decide) rfl lf_X12_216 rfl ((zup_k _ _ _ _ _ _ (by decide)).trans ((zup_k _ _ _ _ _ _ (by decide)).trans ((zup_k _ _ _ _ _ _ (by decide)).trans (zup_s _ _ _ _ _)))) <|
  WP.iaload (pc2 := 161) rfl (by decide +kernel) zSh_62 rfl f27.2.2.2.2.2.2.2.1 ((zup_k _ _ _ _ _ _ (by decide)).trans ((zup_k _ _ _ _ _ _ (by decide)).trans ((zup_k _ _ _ _ _ _ (by decide)).trans (zup_k _ _ _ _ _ _ (by decide))))) <|
  WP.iastore (pc2 := 162) rfl (by decide +kernel) zSh_62 rfl f27.2.2.2.2.2.2.2.2.1 <|
  WP.aload_n (pc2 := 163) (i := 0) rfl (by decide +kernel) rfl <|
  WP.getR (pc2 := 166) rfl (by decide +kernel) zc_12 zSh_37 (by decide) rfl lf_X12_95 rfl (rs_37_42 hM) <|
  WP.iload_n (pc2 := 167) (i := 1) rfl (by decide +kernel) rfl <|
  WP.aload_n (pc2 := 168) (i := 0) rfl (by decide +kernel) rfl <|
  WP.getR (pc2 := 171) rfl (by decide +kernel) zc_12 zSh_37 (by decide) rfl lf_X12_95 rfl (rs_37_42 hM) <|
  WP.aload_n (pc2 := 172) (i := 0) rfl (by decide +kernel) rfl <|
  WP.getI (pc2 := 175) rfl (by decide +kernel) zc_12 zSh_37 (by decide) rfl lf_X12_216 rfl ((zup_k _ _ _ _ _ _ (by decide)).trans ((zup_k _ _ _ _ _ _ (by decide)).trans ((zup_k _ _ _ _ _ _ (by decide)).trans ((zup_k _ _ _ _ _ _ (by decide)).trans (zup_s _ _ _ _ _))))) <|
  WP.iaload (pc2 := 176) rfl (by decide +kernel) zSh_63 rfl f27.2.2.2.2.2.2.2.2.2.1 ((zup_k _ _ _ _ _ _ (by decide)).trans ((zup_k _ _ _ _ _ _ (by decide)).trans ((zup_k _ _ _ _ _ _ (by decide)).trans ((zup_k _ _ _ _ _ _ (by decide)).trans (zup_k _ _ _ _ _ _ (by decide)))))) <|
  WP.iastore (pc2 := 177) rfl (by decide +kernel) zSh_63 rfl f27.2.2.2.2.2.2.2.2.2.2.1 <|
  WP.aload_n (pc2 := 178) (i := 0) rfl (by decide +kernel) rfl <|
  WP.getR (pc2 := 181) rfl (by decide +kernel) zc_12 zSh_37 (by decide) rfl lf_X12_98 rfl (rs_37_43 hM) <|
  WP.iload_n (pc2 := 182) (i := 1) rfl (by decide +kernel) rfl <|
  WP.aload_n (pc2 := 183) (i := 0) rfl (by decide +kernel) rfl <|
  WP.getR (pc2 := 186) rfl (by decide +kernel) zc_12 zSh_37 (by decide) rfl lf_X12_98 rfl (rs_37_43 hM) <|
  WP.aload_n (pc2 := 187) (i := 0) rfl (by decide +kernel) rfl <|
  WP.getI (pc2 := 190) rfl (by decide +kernel) zc_12 zSh_37 (by decide) rfl lf_X12_216 rfl ((zup_k _ _ _ _ _ _ (by decide)).trans ((zup_k _ _ _ _ _ _ (by decide)).trans ((zup_k _ _ _ _ _ _ (by decide)).trans ((zup_k _ _ _ _ _ _ (by decide)).trans ((zup_k _ _ _ _ _ _ (by decide)).trans (zup_s _ _ _ _ _)))))) <|
  WP.iaload (pc2 := 191) rfl (by decide +kernel) zSh_64 rfl f27.2.2.2.2.2.2.2.2.2.2.2.1 ((zup_k _ _ _ _ _ _ (by decide)).trans ((zup_k _ _ _ _ _ _ (by decide)).trans ((zup_k _ _ _ _ _ _ (by decide)).trans ((zup_k _ _ _ _ _ _ (by decide)).trans ((zup_k _ _ _ _ _ _ (by decide)).trans (zup_k _ _ _ _ _ _ (by decide))))))) <|
  WP.iastore (pc2 := 192) rfl (by decide +kernel) zSh_64 rfl f27.2.2.2.2.2.2.2.2.2.2.2.2.1 <|
  WP.aload_n (pc2 := 193) (i := 0) rfl (by decide +kernel) rfl <|
  WP.getR (pc2 := 196) rfl (by decide +kernel) zc_12 zSh_37 (by decide) rfl lf_X12_101 rfl (rs_37_44 hM) <|
  WP.iload_n (pc2 := 197) (i := 1) rfl (by decide +kernel) rfl <|
  WP.aload_n (pc2 := 198) (i := 0) rfl (by decide +kernel) rfl <|
  WP.getR (pc2 := 201) rfl (by decide +kernel) zc_12 zSh_37 (by decide) rfl lf_X12_101 rfl (rs_37_44 hM) <|
  WP.aload_n (pc2 := 202) (i := 0) rfl (by decide +kernel) rfl <|
  WP.getI (pc2 := 205) rfl (by decide +kernel) zc_12 zSh_37 (by decide) rfl lf_X12_216 rfl ((zup_k _ _ _ _ _ _ (by decide)).trans ((zup_k _ _ _ _ _ _ (by decide)).trans ((zup_k _ _ _ _ _ _ (by decide)).trans ((zup_k _ _ _ _ _ _ (by decide)).trans ((zup_k _ _ _ _ _ _ (by decide)).trans ((zup_k _ _ _ _ _ _ (by decide)).trans (zup_s _ _ _ _ _))))))) <|
  WP.iaload (pc2 := 206) rfl (by decide +kernel) zSh_65 rfl f27.2.2.2.2.2.2.2.2.2.2.2.2.2.1 ((zup_k _ _ _ _ _ _ (by decide)).trans ((zup_k _ _ _ _ _ _ (by decide)).trans ((zup_k _ _ _ _ _ _ (by decide)).trans ((zup_k _ _ _ _ _ _ (by decide)).trans ((zup_k _ _ _ _ _ _ (by decide)).trans ((zup_k _ _ _ _ _ _ (by decide)).trans (zup_k _ _ _ _ _ _ (by decide)))))))) <|
  WP.iastore (pc2 := 207) rfl (by decide +kernel) zSh_65 rfl f27.2.2.2.2.2.2.2.2.2.2.2.2.2.2.1 <|
  WP.aload_n (pc2 := 208) (i := 0) rfl (by decide +kernel) rfl <|
  WP.callV (y := mX12_messagesCome) (index := 236) (pc2 := 211) (y' := mX12_nextComing) (vs := []) rfl (by decide +kernel) okX12_nextComing ⟨by decide, by decide⟩ ⟨lm_X12_236, ivX12_nextComing⟩ zSh_37 zc_12 (Nat.le_of_ble_eq_true rfl) ⟨rfl, rfl⟩ rfl (WP.c0i f27.2.2.2.2.2.2.2.2.2.2.2.2.2.2.2 (fun x25 _ f26 =>
  WP.istore_n (pc2 := 212) (i := 1) rfl (by decide +kernel) (by decide) <|
  WP.goto (off := -184) (tgt := 28) (by decide +kernel) (by decide) <|
  f26))))))

set_option maxRecDepth 100000 in
set_option maxHeartbeats 4000000 in
theorem GX12_messagesCome_217 {hi : zI} {hr : zR} {P : zI → Prop} (hM : RSm hr) (a1 : Int) (u2 : Option zV) 
    (F : (hi 37 0 10 ≤ a1 → P hi) ∧ (a1 < hi 37 0 10 → ((0 ≤ a1 ∧ a1 < 6) ∧ ((hi 66 0 a1 = 0 → ((0 ≤ a1 ∧ a1 < 6) ∧ ((zInR ((hi 73 0 a1) + 1)) ∧ ((0 ≤ a1 ∧ a1 < 6) ∧ ((zInR (a1 + 1)) ∧ (WP mX12_messagesCome 217 [some (.inr (some (37, 0))), some (.inl (a1 + 1)), u2] [] (zup hi 73 0 a1 ((hi 73 0 a1) + 1)) hr (zQ1v hr P))))))) ∧ (hi 66 0 a1 ≠ 0 → ((0 ≤ a1 ∧ a1 < 6) ∧ ((zInR (a1 + 1)) ∧ (WP mX12_messagesCome 217 [some (.inr (some (37, 0))), some (.inl (a1 + 1)), u2] [] (zup hi 73 0 a1 0) hr (zQ1v hr P))))))))) :
    WP mX12_messagesCome 217 [some (.inr (some (37, 0))), some (.inl a1), u2] [] hi hr (zQ1v hr P) :=
  WP.iload_n (pc2 := 218) (i := 1) rfl (by decide +kernel) rfl <|
  WP.aload_n (pc2 := 219) (i := 0) rfl (by decide +kernel) rfl <|
  WP.getI (pc2 := 222) rfl (by decide +kernel) zc_12 zSh_37 (by decide) rfl lf_X12_195 rfl rfl <|
  WP.icmp_ge (pc2 := 225) (off := 36) (tgt := 258) rfl (by decide +kernel) (by decide) (fun h37 => have f38 := F.1 h37
  WP.vret (by decide +kernel) rfl ⟨rfl, rfl, f38⟩) (fun h37 => have f39 := F.2 h37
  WP.aload_n (pc2 := 226) (i := 0) rfl (by decide +kernel) rfl <|
  WP.getR (pc2 := 229) rfl (by decide +kernel) zc_12 zSh_37 (by decide) rfl lf_X12_125 rfl (rs_37_52 hM) <|
  WP.iload_n (pc2 := 230) (i := 1) rfl (by decide +kernel) rfl <|
  WP.aload_n (pc2 := 231) (i := 0) rfl (by decide +kernel) rfl <|
  WP.getR (pc2 := 234) rfl (by decide +kernel) zc_12 zSh_37 (by decide) rfl lf_X12_104 rfl (rs_37_45 hM) <|
  WP.iload_n (pc2 := 235) (i := 1) rfl (by decide +kernel) rfl <|
  WP.baload (pc2 := 236) rfl (by decide +kernel) zSh_66 (by decide) rfl f39.1 rfl <|
  WP.if_eq (pc2 := 239) (off := 7) (tgt := 243) rfl (by decide +kernel) (by decide) (fun h34 => have f35 := f39.2.1 h34
  WP.aload_n (pc2 := 244) (i := 0) rfl (by decide +kernel) rfl <|
  WP.getR (pc2 := 247) rfl (by decide +kernel) zc_12 zSh_37 (by decide) rfl lf_X12_125 rfl (rs_37_52 hM) <|
  WP.iload_n (pc2 := 248) (i := 1) rfl (by decide +kernel) rfl <|
  WP.iaload (pc2 := 249) rfl (by decide +kernel) zSh_73 rfl f35.1 rfl <|
  WP.iconst (pc2 := 250) (x := 1) rfl (by decide +kernel) (by decide) <|
  WP.iadd (pc2 := 251) rfl (by decide +kernel) f35.2.1 <|
  WP.iastore (pc2 := 252) rfl (by decide +kernel) zSh_73 rfl f35.2.2.1 <|
  WP.iinc (pc2 := 255) (i := 1) (d := 1) rfl (by decide +kernel) rfl f35.2.2.2.1 <|
  WP.goto (off := -38) (tgt := 217) (by decide +kernel) (by decide) <|
  f35.2.2.2.2) (fun h34 => have f36 := f39.2.2 h34
  WP.iconst (pc2 := 240) (x := 0) rfl (by decide +kernel) (by decide) <|
  WP.goto (off := 11) (tgt := 251) (by decide +kernel) (by decide) <|
  WP.iastore (pc2 := 252) rfl (by decide +kernel) zSh_73 rfl f36.1 <|
  WP.iinc (pc2 := 255) (i := 1) (d := 1) rfl (by decide +kernel) rfl f36.2.1 <|
  WP.goto (off := -38) (tgt := 217) (by decide +kernel) (by decide) <|
  f36.2.2))
set_option maxRecDepth 100000 in
set_option maxHeartbeats 4000000 in
theorem GX12_granting {hi : zI} {hr : zR} {P : zI → Prop} (hM : RSm hr) (l1 : Int) (l2 : Int) (l3 : Int) (l4 : Int) 
    (F : (0 ≤ l1 ∧ l1 < 6) ∧ ((0 ≤ l1 ∧ l1 < 6) ∧ ((zInR ((hi 69 0 l1) + 1)) ∧ ((l2 ≠ (hi 69 0 l1) + 1 → ((0 ≤ l1 ∧ l1 < 6) ∧ ((l2 ≠ hi 69 0 l1 → (P (zup hi 66 0 l1 1))) ∧ (l2 = hi 69 0 l1 → ((0 ≤ l1 ∧ l1 < 6) ∧ ((zInR ((hi 70 0 l1) + 1)) ∧ ((l3 = (hi 70 0 l1) + 1 → ((0 ≤ l1 ∧ l1 < 6) ∧ ((0 ≤ l1 ∧ l1 < 6) ∧ (P (zup (zup (zup hi 66 0 l1 1) 71 0 l1 1) 72 0 l1 l4))))) ∧ (l3 ≠ (hi 70 0 l1) + 1 → (P (zup hi 66 0 l1 1)))))))))) ∧ (l2 = (hi 69 0 l1) + 1 → ((l3 ≠ 1 → ((0 ≤ l1 ∧ l1 < 6) ∧ ((l2 ≠ hi 69 0 l1 → (P (zup hi 66 0 l1 1))) ∧ (l2 = hi 69 0 l1 → ((0 ≤ l1 ∧ l1 < 6) ∧ ((zInR ((hi 70 0 l1) + 1)) ∧ ((l3 = (hi 70 0 l1) + 1 → ((0 ≤ l1 ∧ l1 < 6) ∧ ((0 ≤ l1 ∧ l1 < 6) ∧ (P (zup (zup (zup hi 66 0 l1 1) 71 0 l1 1) 72 0 l1 l4))))) ∧ (l3 ≠ (hi 70 0 l1) + 1 → (P (zup hi 66 0 l1 1)))))))))) ∧ (l3 = 1 → ((0 ≤ l1 ∧ l1 < 6) ∧ ((0 ≤ l1 ∧ l1 < 6) ∧ ((0 ≤ l1 ∧ l1 < 6) ∧ ((0 ≤ l1 ∧ l1 < 6) ∧ ((0 ≤ l1 ∧ l1 < 6) ∧ (P (zup (zup (zup (zup (zup (zup hi 66 0 l1 1) 69 0 l1 l2) 70 0 l1 0) 68 0 l1 0) 71 0 l1 1) 72 0 l1 l4)))))))))))))) :
    W1v mX12_granting [.inr (some (37, 0)), .inl l1, .inl l2, .inl l3, .inl l4] hi hr P :=
  WPm.of rfl (show WP mX12_granting 0 [some (.inr (some (37, 0))), some (.inl l1), some (.inl l2), some (.inl l3), some (.inl l4)] [] hi hr (zQ1v hr P) from
  WP.aload_n (pc2 := 1) (i := 0) rfl (by decide +kernel) rfl <|
  WP.getR (pc2 := 4) rfl (by decide +kernel) zc_12 zSh_37 (by decide) rfl lf_X12_104 rfl (rs_37_45 hM) <|
  WP.iload_n (pc2 := 5) (i := 1) rfl (by decide +kernel) rfl <|
  WP.iconst (pc2 := 6) (x := 1) rfl (by decide +kernel) (by decide) <|
  WP.bastore (pc2 := 7) rfl (by decide +kernel) zSh_66 (Or.inr ⟨rfl, by decide, by decide⟩) rfl F.1 <|
  WP.iload_n (pc2 := 8) (i := 2) rfl (by decide +kernel) rfl <|
  WP.aload_n (pc2 := 9) (i := 0) rfl (by decide +kernel) rfl <|
  WP.getR (pc2 := 12) rfl (by decide +kernel) zc_12 zSh_37 (by decide) rfl lf_X12_113 rfl (rs_37_48 hM) <|
  WP.iload_n (pc2 := 13) (i := 1) rfl (by decide +kernel) rfl <|
  WP.iaload (pc2 := 14) rfl (by decide +kernel) zSh_69 rfl F.2.1 (zup_k _ _ _ _ _ _ (by decide)) <|
  WP.iconst (pc2 := 15) (x := 1) rfl (by decide +kernel) (by decide) <|
  WP.iadd (pc2 := 16) rfl (by decide +kernel) F.2.2.1 <|
  WP.icmp_ne (pc2 := 19) (off := 32) (tgt := 48) rfl (by decide +kernel) (by decide) (fun h16 => have f17 := F.2.2.2.1 h16
  WP.iload_n (pc2 := 49) (i := 2) rfl (by decide +kernel) rfl <|
  WP.aload_n (pc2 := 50) (i := 0) rfl (by decide +kernel) rfl <|
  WP.getR (pc2 := 53) rfl (by decide +kernel) zc_12 zSh_37 (by decide) rfl lf_X12_113 rfl (rs_37_48 hM) <|
  WP.iload_n (pc2 := 54) (i := 1) rfl (by decide +kernel) rfl <|
  WP.iaload (pc2 := 55) rfl (by decide +kernel) zSh_69 rfl f17.1 (zup_k _ _ _ _ _ _ (by decide)) <|
  WP.icmp_ne (pc2 := 58) (off := 15) (tgt := 70) rfl (by decide +kernel) (by decide) (fun h4 => have f5 := f17.2.1 h4
  WP.vret (by decide +kernel) rfl ⟨rfl, rfl, f5⟩) (fun h4 => have f6 := f17.2.2 h4
  WP.iload_n (pc2 := 59) (i := 3) rfl (by decide +kernel) rfl <|
  WP.aload_n (pc2 := 60) (i := 0) rfl (by decide +kernel) rfl <|
  WP.getR (pc2 := 63) rfl (by decide +kernel) zc_12 zSh_37 (by decide) rfl lf_X12_116 rfl (rs_37_49 hM) <|
  WP.iload_n (pc2 := 64) (i := 1) rfl (by decide +kernel) rfl <|
  WP.iaload (pc2 := 65) rfl (by decide +kernel) zSh_70 rfl f6.1 (zup_k _ _ _ _ _ _ (by decide)) <|
  WP.iconst (pc2 := 66) (x := 1) rfl (by decide +kernel) (by decide) <|
  WP.iadd (pc2 := 67) rfl (by decide +kernel) f6.2.1 <|
  WP.icmp_eq (pc2 := 70) (off := 4) (tgt := 71) rfl (by decide +kernel) (by decide) (fun h1 => have f2 := f6.2.2.1 h1
  WP.aload_n (pc2 := 72) (i := 0) rfl (by decide +kernel) rfl <|
  WP.getR (pc2 := 75) rfl (by decide +kernel) zc_12 zSh_37 (by decide) rfl lf_X12_119 rfl (rs_37_50 hM) <|
  WP.iload_n (pc2 := 76) (i := 1) rfl (by decide +kernel) rfl <|
  WP.iconst (pc2 := 77) (x := 1) rfl (by decide +kernel) (by decide) <|
  WP.bastore (pc2 := 78) rfl (by decide +kernel) zSh_71 (Or.inr ⟨rfl, by decide, by decide⟩) rfl f2.1 <|
  WP.aload_n (pc2 := 79) (i := 0) rfl (by decide +kernel) rfl <|
  WP.getR (pc2 := 82) rfl (by decide +kernel) zc_12 zSh_37 (by decide) rfl lf_X12_122 rfl (rs_37_51 hM) <|
  WP.iload_n (pc2 := 83) (i := 1) rfl (by decide +kernel) rfl <|
  WP.iload (pc2 := 85) (i := 4) rfl (by decide +kernel) rfl <|
  WP.iastore (pc2 := 86) rfl (by decide +kernel) zSh_72 rfl f2.2.1 <|
  WP.vret (by decide +kernel) rfl ⟨rfl, rfl, f2.2.2⟩) (fun h1 => have f3 := f6.2.2.2 h1
  WP.vret (by decide +kernel) rfl ⟨rfl, rfl, f3⟩))) (fun h16 => have f18 := F.2.2.2.2 h16
  WP.iload_n (pc2 := 20) (i := 3) rfl (by decide +kernel) rfl <|
  WP.iconst (pc2 := 21) (x := 1) rfl (by decide +kernel) (by decide) <|
  WP.icmp_ne (pc2 := 24) (off := 27) (tgt := 48) rfl (by decide +kernel) (by decide) (fun h13 => have f14 := f18.1 h13
  WP.iload_n (pc2 := 49) (i := 2) rfl (by decide +kernel) rfl <|
  WP.aload_n (pc2 := 50) (i := 0) rfl (by decide +kernel) rfl <|
  WP.getR (pc2 := 53) rfl (by decide +kernel) zc_12 zSh_37 (by decide) rfl lf_X12_113 rfl (rs_37_48 hM) <|
  WP.iload_n (pc2 := 54) (i := 1) rfl (by decide +kernel) rfl <|
  WP.iaload (pc2 := 55) rfl (by decide +kernel) zSh_69 rfl f14.1 (zup_k _ _ _ _ _ _ (by decide)) <|
  WP.icmp_ne (pc2 := 58) (off := 15) (tgt := 70) rfl (by decide +kernel) (by decide) (fun h10 => have f11 := f14.2.1 h10
  WP.vret (by decide +kernel) rfl ⟨rfl, rfl, f11⟩) (fun h10 => have f12 := f14.2.2 h10
  WP.iload_n (pc2 := 59) (i := 3) rfl (by decide +kernel) rfl <|
  WP.aload_n (pc2 := 60) (i := 0) rfl (by decide +kernel) rfl <|
  WP.getR (pc2 := 63) rfl (by decide +kernel) zc_12 zSh_37 (by decide) rfl lf_X12_116 rfl (rs_37_49 hM) <|
  WP.iload_n (pc2 := 64) (i := 1) rfl (by decide +kernel) rfl <|
  WP.iaload (pc2 := 65) rfl (by decide +kernel) zSh_70 rfl f12.1 (zup_k _ _ _ _ _ _ (by decide)) <|
  WP.iconst (pc2 := 66) (x := 1) rfl (by decide +kernel) (by decide) <|
  WP.iadd (pc2 := 67) rfl (by decide +kernel) f12.2.1 <|
  WP.icmp_eq (pc2 := 70) (off := 4) (tgt := 71) rfl (by decide +kernel) (by decide) (fun h7 => have f8 := f12.2.2.1 h7
  WP.aload_n (pc2 := 72) (i := 0) rfl (by decide +kernel) rfl <|
  WP.getR (pc2 := 75) rfl (by decide +kernel) zc_12 zSh_37 (by decide) rfl lf_X12_119 rfl (rs_37_50 hM) <|
  WP.iload_n (pc2 := 76) (i := 1) rfl (by decide +kernel) rfl <|
  WP.iconst (pc2 := 77) (x := 1) rfl (by decide +kernel) (by decide) <|
  WP.bastore (pc2 := 78) rfl (by decide +kernel) zSh_71 (Or.inr ⟨rfl, by decide, by decide⟩) rfl f8.1 <|
  WP.aload_n (pc2 := 79) (i := 0) rfl (by decide +kernel) rfl <|
  WP.getR (pc2 := 82) rfl (by decide +kernel) zc_12 zSh_37 (by decide) rfl lf_X12_122 rfl (rs_37_51 hM) <|
  WP.iload_n (pc2 := 83) (i := 1) rfl (by decide +kernel) rfl <|
  WP.iload (pc2 := 85) (i := 4) rfl (by decide +kernel) rfl <|
  WP.iastore (pc2 := 86) rfl (by decide +kernel) zSh_72 rfl f8.2.1 <|
  WP.vret (by decide +kernel) rfl ⟨rfl, rfl, f8.2.2⟩) (fun h7 => have f9 := f12.2.2.2 h7
  WP.vret (by decide +kernel) rfl ⟨rfl, rfl, f9⟩))) (fun h13 => have f15 := f18.2 h13
  WP.aload_n (pc2 := 25) (i := 0) rfl (by decide +kernel) rfl <|
  WP.getR (pc2 := 28) rfl (by decide +kernel) zc_12 zSh_37 (by decide) rfl lf_X12_113 rfl (rs_37_48 hM) <|
  WP.iload_n (pc2 := 29) (i := 1) rfl (by decide +kernel) rfl <|
  WP.iload_n (pc2 := 30) (i := 2) rfl (by decide +kernel) rfl <|
  WP.iastore (pc2 := 31) rfl (by decide +kernel) zSh_69 rfl f15.1 <|
  WP.aload_n (pc2 := 32) (i := 0) rfl (by decide +kernel) rfl <|
  WP.getR (pc2 := 35) rfl (by decide +kernel) zc_12 zSh_37 (by decide) rfl lf_X12_116 rfl (rs_37_49 hM) <|
  WP.iload_n (pc2 := 36) (i := 1) rfl (by decide +kernel) rfl <|
  WP.iconst (pc2 := 37) (x := 0) rfl (by decide +kernel) (by decide) <|
  WP.iastore (pc2 := 38) rfl (by decide +kernel) zSh_70 rfl f15.2.1 <|
  WP.aload_n (pc2 := 39) (i := 0) rfl (by decide +kernel) rfl <|
  WP.getR (pc2 := 42) rfl (by decide +kernel) zc_12 zSh_37 (by decide) rfl lf_X12_110 rfl (rs_37_47 hM) <|
  WP.iload_n (pc2 := 43) (i := 1) rfl (by decide +kernel) rfl <|
  WP.iconst (pc2 := 44) (x := 0) rfl (by decide +kernel) (by decide) <|
  WP.iastore (pc2 := 45) rfl (by decide +kernel) zSh_68 rfl f15.2.2.1 <|
  WP.goto (off := 26) (tgt := 71) (by decide +kernel) (by decide) <|
  WP.aload_n (pc2 := 72) (i := 0) rfl (by decide +kernel) rfl <|
  WP.getR (pc2 := 75) rfl (by decide +kernel) zc_12 zSh_37 (by decide) rfl lf_X12_119 rfl (rs_37_50 hM) <|
  WP.iload_n (pc2 := 76) (i := 1) rfl (by decide +kernel) rfl <|
  WP.iconst (pc2 := 77) (x := 1) rfl (by decide +kernel) (by decide) <|
  WP.bastore (pc2 := 78) rfl (by decide +kernel) zSh_71 (Or.inr ⟨rfl, by decide, by decide⟩) rfl f15.2.2.2.1 <|
  WP.aload_n (pc2 := 79) (i := 0) rfl (by decide +kernel) rfl <|
  WP.getR (pc2 := 82) rfl (by decide +kernel) zc_12 zSh_37 (by decide) rfl lf_X12_122 rfl (rs_37_51 hM) <|
  WP.iload_n (pc2 := 83) (i := 1) rfl (by decide +kernel) rfl <|
  WP.iload (pc2 := 85) (i := 4) rfl (by decide +kernel) rfl <|
  WP.iastore (pc2 := 86) rfl (by decide +kernel) zSh_72 rfl f15.2.2.2.2.1 <|
  WP.vret (by decide +kernel) rfl ⟨rfl, rfl, f15.2.2.2.2.2⟩)))
set_option maxRecDepth 100000 in
set_option maxHeartbeats 4000000 in
theorem GX12_vehicleActs {hi : zI} {hr : zR} {P : zI → Prop} (hM : RSm hr) (l1 : Int) 
    (F : (0 ≤ l1 ∧ l1 < 6) ∧ ((hi 71 0 l1 = 0 → ((0 ≤ hi 37 0 61) ∧ (((hi 37 0 61) % 2 ≠ 0 → P hi) ∧ ((hi 37 0 61) % 2 = 0 → ((0 ≤ l1 ∧ l1 < 6) ∧ ((0 ≤ l1 ∧ l1 < 6) ∧ (W1v mX12_sends [.inr (some (37, 0)), .inl 1, .inl l1, .inl (hi 69 0 l1), .inl (hi 70 0 l1), .inl (-1)] hi hr (fun (hi1 : zI) => P hi1)))))))) ∧ (hi 71 0 l1 ≠ 0 → ((0 ≤ l1 ∧ l1 < 6) ∧ ((10 ≤ hi 73 0 l1 → ((0 ≤ hi 37 0 61) ∧ (((hi 37 0 61) % 2 ≠ 0 → P hi) ∧ ((hi 37 0 61) % 2 = 0 → ((0 ≤ l1 ∧ l1 < 6) ∧ ((0 ≤ l1 ∧ l1 < 6) ∧ (W1v mX12_sends [.inr (some (37, 0)), .inl 1, .inl l1, .inl (hi 69 0 l1), .inl (hi 70 0 l1), .inl (-1)] hi hr (fun (hi6 : zI) => P hi6)))))))) ∧ (hi 73 0 l1 < 10 → ((0 ≤ l1 ∧ l1 < 6) ∧ ((0 ≤ l1 ∧ l1 < 6) ∧ ((zInR ((hi 70 0 l1) + 1)) ∧ ((0 ≤ l1 ∧ l1 < 6) ∧ ((zInR ((hi 37 0 53) + 1)) ∧ ((0 ≤ l1 ∧ l1 < 6) ∧ ((hi 72 0 l1 ≠ -1 → ((0 ≤ l1 ∧ l1 < 6) ∧ ((0 ≤ l1 ∧ l1 < 6) ∧ ((0 ≤ l1 ∧ l1 < 6) ∧ ((0 ≤ l1 ∧ l1 < 6) ∧ ((hi 69 0 l1 ≠ hi 77 0 l1 → ((0 ≤ l1 ∧ l1 < 6) ∧ ((0 ≤ l1 ∧ l1 < 6) ∧ (W1v mX12_sends [.inr (some (37, 0)), .inl 1, .inl l1, .inl (hi 69 0 l1), .inl ((hi 70 0 l1) + 1), .inl (-1)] (zup (zup (zup (zup hi 71 0 l1 0) 70 0 l1 ((hi 70 0 l1) + 1)) 37 0 53 ((hi 37 0 53) + 1)) 67 0 l1 (hi 72 0 l1)) hr (fun (hi11 : zI) => P hi11))))) ∧ (hi 69 0 l1 = hi 77 0 l1 → ((0 ≤ l1 ∧ l1 < 6) ∧ ((0 ≤ l1 ∧ l1 < 6) ∧ (((hi 70 0 l1) + 1 ≠ hi 54 0 l1 → ((0 ≤ l1 ∧ l1 < 6) ∧ ((0 ≤ l1 ∧ l1 < 6) ∧ (W1v mX12_sends [.inr (some (37, 0)), .inl 1, .inl l1, .inl (hi 69 0 l1), .inl ((hi 70 0 l1) + 1), .inl (-1)] (zup (zup (zup (zup hi 71 0 l1 0) 70 0 l1 ((hi 70 0 l1) + 1)) 37 0 53 ((hi 37 0 53) + 1)) 67 0 l1 (hi 72 0 l1)) hr (fun (hi13 : zI) => P hi13))))) ∧ ((hi 70 0 l1) + 1 = hi 54 0 l1 → ((0 ≤ l1 ∧ l1 < 6) ∧ ((0 ≤ l1 ∧ l1 < 6) ∧ ((0 ≤ l1 ∧ l1 < 6) ∧ (W1v mX12_sends [.inr (some (37, 0)), .inl 1, .inl l1, .inl (hi 69 0 l1), .inl ((hi 70 0 l1) + 1), .inl (-1)] (zup (zup (zup (zup (zup hi 71 0 l1 0) 70 0 l1 ((hi 70 0 l1) + 1)) 37 0 53 ((hi 37 0 53) + 1)) 67 0 l1 (hi 72 0 l1)) 68 0 l1 0) hr (fun (hi15 : zI) => P hi15)))))))))))))))) ∧ (hi 72 0 l1 = -1 → ((0 ≤ l1 ∧ l1 < 6) ∧ ((zInR ((hi 68 0 l1) + 1)) ∧ ((0 ≤ l1 ∧ l1 < 6) ∧ ((0 ≤ l1 ∧ l1 < 6) ∧ ((0 ≤ l1 ∧ l1 < 6) ∧ ((hi 69 0 l1 ≠ hi 77 0 l1 → ((0 ≤ l1 ∧ l1 < 6) ∧ ((0 ≤ l1 ∧ l1 < 6) ∧ (W1v mX12_sends [.inr (some (37, 0)), .inl 1, .inl l1, .inl (hi 69 0 l1), .inl ((hi 70 0 l1) + 1), .inl (-1)] (zup (zup (zup (zup hi 71 0 l1 0) 70 0 l1 ((hi 70 0 l1) + 1)) 37 0 53 ((hi 37 0 53) + 1)) 68 0 l1 ((hi 68 0 l1) + 1)) hr (fun (hi23 : zI) => P hi23))))) ∧ (hi 69 0 l1 = hi 77 0 l1 → ((0 ≤ l1 ∧ l1 < 6) ∧ ((0 ≤ l1 ∧ l1 < 6) ∧ (((hi 70 0 l1) + 1 ≠ hi 54 0 l1 → ((0 ≤ l1 ∧ l1 < 6) ∧ ((0 ≤ l1 ∧ l1 < 6) ∧ (W1v mX12_sends [.inr (some (37, 0)), .inl 1, .inl l1, .inl (hi 69 0 l1), .inl ((hi 70 0 l1) + 1), .inl (-1)] (zup (zup (zup (zup hi 71 0 l1 0) 70 0 l1 ((hi 70 0 l1) + 1)) 37 0 53 ((hi 37 0 53) + 1)) 68 0 l1 ((hi 68 0 l1) + 1)) hr (fun (hi25 : zI) => P hi25))))) ∧ ((hi 70 0 l1) + 1 = hi 54 0 l1 → ((0 ≤ l1 ∧ l1 < 6) ∧ ((0 ≤ l1 ∧ l1 < 6) ∧ ((0 ≤ l1 ∧ l1 < 6) ∧ (W1v mX12_sends [.inr (some (37, 0)), .inl 1, .inl l1, .inl (hi 69 0 l1), .inl ((hi 70 0 l1) + 1), .inl (-1)] (zup (zup (zup (zup (zup hi 71 0 l1 0) 70 0 l1 ((hi 70 0 l1) + 1)) 37 0 53 ((hi 37 0 53) + 1)) 68 0 l1 ((hi 68 0 l1) + 1)) 68 0 l1 0) hr (fun (hi27 : zI) => P hi27)))))))))))))))))))))))))))))) :
    W1v mX12_vehicleActs [.inr (some (37, 0)), .inl l1] hi hr P :=
  WPm.of rfl (show WP mX12_vehicleActs 0 [some (.inr (some (37, 0))), some (.inl l1), none] [] hi hr (zQ1v hr P) from
  WP.aload_n (pc2 := 1) (i := 0) rfl (by decide +kernel) rfl <|
  WP.getR (pc2 := 4) rfl (by decide +kernel) zc_12 zSh_37 (by decide) rfl lf_X12_119 rfl (rs_37_50 hM) <|
  WP.iload_n (pc2 := 5) (i := 1) rfl (by decide +kernel) rfl <|
  WP.baload (pc2 := 6) rfl (by decide +kernel) zSh_71 (by decide) rfl F.1 rfl <|
  WP.if_eq (pc2 := 9) (off := 18) (tgt := 24) rfl (by decide +kernel) (by decide) (fun h41 => have f42 := F.2.1 h41
  WP.iconst (pc2 := 25) (x := 0) rfl (by decide +kernel) (by decide) <|
  WP.istore_n (pc2 := 26) (i := 2) rfl (by decide +kernel) (by decide) <|
  WP.iload_n (pc2 := 27) (i := 2) rfl (by decide +kernel) rfl <|
  WP.if_eq (pc2 := 30) (off := 102) (tgt := 129) rfl (by decide +kernel) (by decide) (fun _ =>
  WP.iload_n (pc2 := 130) (i := 2) rfl (by decide +kernel) rfl <|
  WP.if_ne (pc2 := 133) (off := 12) (tgt := 142) rfl (by decide +kernel) (by decide) (fun h => absurd h (by decide)) (fun _ =>
  WP.aload_n (pc2 := 134) (i := 0) rfl (by decide +kernel) rfl <|
  WP.getI (pc2 := 137) rfl (by decide +kernel) zc_12 zSh_37 (by decide) rfl lf_X12_207 rfl rfl <|
  WP.iconst (pc2 := 138) (x := 2) rfl (by decide +kernel) (by decide) <|
  WP.irem (pc2 := 139) rfl (by decide +kernel) f42.1 (by decide) <|
  WP.if_ne (pc2 := 142) (off := 22) (tgt := 161) rfl (by decide +kernel) (by decide) (fun h3 => have f4 := f42.2.1 h3
  WP.vret (by decide +kernel) rfl ⟨rfl, rfl, f4⟩) (fun h3 => have f5 := f42.2.2 h3
  WP.aload_n (pc2 := 143) (i := 0) rfl (by decide +kernel) rfl <|
  WP.iconst (pc2 := 144) (x := 1) rfl (by decide +kernel) (by decide) <|
  WP.iload_n (pc2 := 145) (i := 1) rfl (by decide +kernel) rfl <|
  WP.aload_n (pc2 := 146) (i := 0) rfl (by decide +kernel) rfl <|
  WP.getR (pc2 := 149) rfl (by decide +kernel) zc_12 zSh_37 (by decide) rfl lf_X12_113 rfl (rs_37_48 hM) <|
  WP.iload_n (pc2 := 150) (i := 1) rfl (by decide +kernel) rfl <|
  WP.iaload (pc2 := 151) rfl (by decide +kernel) zSh_69 rfl f5.1 rfl <|
  WP.aload_n (pc2 := 152) (i := 0) rfl (by decide +kernel) rfl <|
  WP.getR (pc2 := 155) rfl (by decide +kernel) zc_12 zSh_37 (by decide) rfl lf_X12_116 rfl (rs_37_49 hM) <|
  WP.iload_n (pc2 := 156) (i := 1) rfl (by decide +kernel) rfl <|
  WP.iaload (pc2 := 157) rfl (by decide +kernel) zSh_70 rfl f5.2.1 rfl <|
  WP.iconst (pc2 := 158) (x := -1) rfl (by decide +kernel) (by decide) <|
  WP.callV (y := mX12_vehicleActs) (index := 247) (pc2 := 161) (y' := mX12_sends) (vs := [.inl 1, .inl l1, .inl (hi 69 0 l1), .inl (hi 70 0 l1), .inl (-1)]) rfl (by decide +kernel) okX12_sends ⟨by decide, by decide⟩ ⟨lm_X12_247, ivX12_sends⟩ zSh_37 zc_12 (Nat.le_of_ble_eq_true rfl) ⟨rfl, rfl⟩ rfl (WP.c1v f5.2.2 (fun hi1 f2 =>
  WP.vret (by decide +kernel) rfl ⟨rfl, rfl, f2⟩))))) (fun h => absurd h (by decide))) (fun h41 => have f43 := F.2.2 h41
  WP.aload_n (pc2 := 10) (i := 0) rfl (by decide +kernel) rfl <|
  WP.getR (pc2 := 13) rfl (by decide +kernel) zc_12 zSh_37 (by decide) rfl lf_X12_125 rfl (rs_37_52 hM) <|
  WP.iload_n (pc2 := 14) (i := 1) rfl (by decide +kernel) rfl <|
  WP.iaload (pc2 := 15) rfl (by decide +kernel) zSh_73 rfl f43.1 rfl <|
  WP.bipush (pc2 := 17) (x := 10) rfl (by decide +kernel) ⟨by decide +kernel, by decide⟩ <|
  WP.icmp_ge (pc2 := 20) (off := 7) (tgt := 24) rfl (by decide +kernel) (by decide) (fun h38 => have f39 := f43.2.1 h38
  WP.iconst (pc2 := 25) (x := 0) rfl (by decide +kernel) (by decide) <|
  WP.istore_n (pc2 := 26) (i := 2) rfl (by decide +kernel) (by decide) <|
  WP.iload_n (pc2 := 27) (i := 2) rfl (by decide +kernel) rfl <|
  WP.if_eq (pc2 := 30) (off := 102) (tgt := 129) rfl (by decide +kernel) (by decide) (fun _ =>
  WP.iload_n (pc2 := 130) (i := 2) rfl (by decide +kernel) rfl <|
  WP.if_ne (pc2 := 133) (off := 12) (tgt := 142) rfl (by decide +kernel) (by decide) (fun h => absurd h (by decide)) (fun _ =>
  WP.aload_n (pc2 := 134) (i := 0) rfl (by decide +kernel) rfl <|
  WP.getI (pc2 := 137) rfl (by decide +kernel) zc_12 zSh_37 (by decide) rfl lf_X12_207 rfl rfl <|
  WP.iconst (pc2 := 138) (x := 2) rfl (by decide +kernel) (by decide) <|
  WP.irem (pc2 := 139) rfl (by decide +kernel) f39.1 (by decide) <|
  WP.if_ne (pc2 := 142) (off := 22) (tgt := 161) rfl (by decide +kernel) (by decide) (fun h8 => have f9 := f39.2.1 h8
  WP.vret (by decide +kernel) rfl ⟨rfl, rfl, f9⟩) (fun h8 => have f10 := f39.2.2 h8
  WP.aload_n (pc2 := 143) (i := 0) rfl (by decide +kernel) rfl <|
  WP.iconst (pc2 := 144) (x := 1) rfl (by decide +kernel) (by decide) <|
  WP.iload_n (pc2 := 145) (i := 1) rfl (by decide +kernel) rfl <|
  WP.aload_n (pc2 := 146) (i := 0) rfl (by decide +kernel) rfl <|
  WP.getR (pc2 := 149) rfl (by decide +kernel) zc_12 zSh_37 (by decide) rfl lf_X12_113 rfl (rs_37_48 hM) <|
  WP.iload_n (pc2 := 150) (i := 1) rfl (by decide +kernel) rfl <|
  WP.iaload (pc2 := 151) rfl (by decide +kernel) zSh_69 rfl f10.1 rfl <|
  WP.aload_n (pc2 := 152) (i := 0) rfl (by decide +kernel) rfl <|
  WP.getR (pc2 := 155) rfl (by decide +kernel) zc_12 zSh_37 (by decide) rfl lf_X12_116 rfl (rs_37_49 hM) <|
  WP.iload_n (pc2 := 156) (i := 1) rfl (by decide +kernel) rfl <|
  WP.iaload (pc2 := 157) rfl (by decide +kernel) zSh_70 rfl f10.2.1 rfl <|
  WP.iconst (pc2 := 158) (x := -1) rfl (by decide +kernel) (by decide) <|
  WP.callV (y := mX12_vehicleActs) (index := 247) (pc2 := 161) (y' := mX12_sends) (vs := [.inl 1, .inl l1, .inl (hi 69 0 l1), .inl (hi 70 0 l1), .inl (-1)]) rfl (by decide +kernel) okX12_sends ⟨by decide, by decide⟩ ⟨lm_X12_247, ivX12_sends⟩ zSh_37 zc_12 (Nat.le_of_ble_eq_true rfl) ⟨rfl, rfl⟩ rfl (WP.c1v f10.2.2 (fun hi6 f7 =>
  WP.vret (by decide +kernel) rfl ⟨rfl, rfl, f7⟩))))) (fun h => absurd h (by decide))) (fun h38 => have f40 := f43.2.2 h38
  WP.iconst (pc2 := 21) (x := 1) rfl (by decide +kernel) (by decide) <|
  WP.goto (off := 4) (tgt := 25) (by decide +kernel) (by decide) <|
  WP.istore_n (pc2 := 26) (i := 2) rfl (by decide +kernel) (by decide) <|
  WP.iload_n (pc2 := 27) (i := 2) rfl (by decide +kernel) rfl <|
  WP.if_eq (pc2 := 30) (off := 102) (tgt := 129) rfl (by decide +kernel) (by decide) (fun h => absurd h (by decide)) (fun _ =>
  WP.aload_n (pc2 := 31) (i := 0) rfl (by decide +kernel) rfl <|
  WP.getR (pc2 := 34) rfl (by decide +kernel) zc_12 zSh_37 (by decide) rfl lf_X12_119 rfl (rs_37_50 hM) <|
  WP.iload_n (pc2 := 35) (i := 1) rfl (by decide +kernel) rfl <|
  WP.iconst (pc2 := 36) (x := 0) rfl (by decide +kernel) (by decide) <|
  WP.bastore (pc2 := 37) rfl (by decide +kernel) zSh_71 (Or.inr ⟨rfl, by decide, by decide⟩) rfl f40.1 <|
  WP.aload_n (pc2 := 38) (i := 0) rfl (by decide +kernel) rfl <|
  WP.getR (pc2 := 41) rfl (by decide +kernel) zc_12 zSh_37 (by decide) rfl lf_X12_116 rfl (rs_37_49 hM) <|
  WP.iload_n (pc2 := 42) (i := 1) rfl (by decide +kernel) rfl <|
  WP.dup2 (pc2 := 43) rfl (by decide +kernel) <|
  WP.iaload (pc2 := 44) rfl (by decide +kernel) zSh_70 rfl f40.2.1 (zup_k _ _ _ _ _ _ (by decide)) <|
  WP.iconst (pc2 := 45) (x := 1) rfl (by decide +kernel) (by decide) <|
  WP.iadd (pc2 := 46) rfl (by decide +kernel) f40.2.2.1 <|
  WP.iastore (pc2 := 47) rfl (by decide +kernel) zSh_70 rfl f40.2.2.2.1 <|
  WP.aload_n (pc2 := 48) (i := 0) rfl (by decide +kernel) rfl <|
  WP.dup (pc2 := 49) rfl (by decide +kernel) <|
  WP.getI (pc2 := 52) rfl (by decide +kernel) zc_12 zSh_37 (by decide) rfl lf_X12_219 rfl ((zup_k _ _ _ _ _ _ (by decide)).trans (zup_k _ _ _ _ _ _ (by decide))) <|
  WP.iconst (pc2 := 53) (x := 1) rfl (by decide +kernel) (by decide) <|
  WP.iadd (pc2 := 54) rfl (by decide +kernel) f40.2.2.2.2.1 <|
  WP.putI (pc2 := 57) rfl (by decide +kernel) zc_12 zSh_37 (by decide) rfl lf_X12_219 rfl (z_int _) rfl <|
  WP.aload_n (pc2 := 58) (i := 0) rfl (by decide +kernel) rfl <|
  WP.getR (pc2 := 61) rfl (by decide +kernel) zc_12 zSh_37 (by decide) rfl lf_X12_122 rfl (rs_37_51 hM) <|
  WP.iload_n (pc2 := 62) (i := 1) rfl (by decide +kernel) rfl <|
  WP.iaload (pc2 := 63) rfl (by decide +kernel) zSh_72 rfl f40.2.2.2.2.2.1 ((zup_k _ _ _ _ _ _ (by decide)).trans ((zup_k _ _ _ _ _ _ (by decide)).trans (zup_k _ _ _ _ _ _ (by decide)))) <|
  WP.iconst (pc2 := 64) (x := -1) rfl (by decide +kernel) (by decide) <|
  WP.icmp_ne (pc2 := 67) (off := 16) (tgt := 80) rfl (by decide +kernel) (by decide) (fun h35 => have f36 := f40.2.2.2.2.2.2.1 h35
  WP.aload_n (pc2 := 81) (i := 0) rfl (by decide +kernel) rfl <|
  WP.getR (pc2 := 84) rfl (by decide +kernel) zc_12 zSh_37 (by decide) rfl lf_X12_107 rfl (rs_37_46 hM) <|
  WP.iload_n (pc2 := 85) (i := 1) rfl (by decide +kernel) rfl <|
  WP.aload_n (pc2 := 86) (i := 0) rfl (by decide +kernel) rfl <|
  WP.getR (pc2 := 89) rfl (by decide +kernel) zc_12 zSh_37 (by decide) rfl lf_X12_122 rfl (rs_37_51 hM) <|
  WP.iload_n (pc2 := 90) (i := 1) rfl (by decide +kernel) rfl <|
  WP.iaload (pc2 := 91) rfl (by decide +kernel) zSh_72 rfl f36.1 ((zup_k _ _ _ _ _ _ (by decide)).trans ((zup_k _ _ _ _ _ _ (by decide)).trans (zup_k _ _ _ _ _ _ (by decide)))) <|
  WP.iastore (pc2 := 92) rfl (by decide +kernel) zSh_67 rfl f36.2.1 <|
  WP.aload_n (pc2 := 93) (i := 0) rfl (by decide +kernel) rfl <|
  WP.getR (pc2 := 96) rfl (by decide +kernel) zc_12 zSh_37 (by decide) rfl lf_X12_113 rfl (rs_37_48 hM) <|
  WP.iload_n (pc2 := 97) (i := 1) rfl (by decide +kernel) rfl <|
  WP.iaload (pc2 := 98) rfl (by decide +kernel) zSh_69 rfl f36.2.2.1 ((zup_k _ _ _ _ _ _ (by decide)).trans ((zup_k _ _ _ _ _ _ (by decide)).trans ((zup_k _ _ _ _ _ _ (by decide)).trans (zup_k _ _ _ _ _ _ (by decide))))) <|
  WP.aload_n (pc2 := 99) (i := 0) rfl (by decide +kernel) rfl <|
  WP.getR (pc2 := 102) rfl (by decide +kernel) zc_12 zSh_37 (by decide) rfl lf_X12_137 rfl (rs_37_57 hM) <|
  WP.iload_n (pc2 := 103) (i := 1) rfl (by decide +kernel) rfl <|
  WP.iaload (pc2 := 104) rfl (by decide +kernel) zSh_77 rfl f36.2.2.2.1 ((zup_k _ _ _ _ _ _ (by decide)).trans ((zup_k _ _ _ _ _ _ (by decide)).trans ((zup_k _ _ _ _ _ _ (by decide)).trans (zup_k _ _ _ _ _ _ (by decide))))) <|
  WP.icmp_ne (pc2 := 107) (off := 25) (tgt := 129) rfl (by decide +kernel) (by decide) (fun h20 => have f21 := f36.2.2.2.2.1 h20
  WP.iload_n (pc2 := 130) (i := 2) rfl (by decide +kernel) rfl <|
  WP.if_ne (pc2 := 133) (off := 12) (tgt := 142) rfl (by decide +kernel) (by decide) (fun _ =>
  WP.aload_n (pc2 := 143) (i := 0) rfl (by decide +kernel) rfl <|
  WP.iconst (pc2 := 144) (x := 1) rfl (by decide +kernel) (by decide) <|
  WP.iload_n (pc2 := 145) (i := 1) rfl (by decide +kernel) rfl <|
  WP.aload_n (pc2 := 146) (i := 0) rfl (by decide +kernel) rfl <|
  WP.getR (pc2 := 149) rfl (by decide +kernel) zc_12 zSh_37 (by decide) rfl lf_X12_113 rfl (rs_37_48 hM) <|
  WP.iload_n (pc2 := 150) (i := 1) rfl (by decide +kernel) rfl <|
  WP.iaload (pc2 := 151) rfl (by decide +kernel) zSh_69 rfl f21.1 ((zup_k _ _ _ _ _ _ (by decide)).trans ((zup_k _ _ _ _ _ _ (by decide)).trans ((zup_k _ _ _ _ _ _ (by decide)).trans (zup_k _ _ _ _ _ _ (by decide))))) <|
  WP.aload_n (pc2 := 152) (i := 0) rfl (by decide +kernel) rfl <|
  WP.getR (pc2 := 155) rfl (by decide +kernel) zc_12 zSh_37 (by decide) rfl lf_X12_116 rfl (rs_37_49 hM) <|
  WP.iload_n (pc2 := 156) (i := 1) rfl (by decide +kernel) rfl <|
  WP.iaload (pc2 := 157) rfl (by decide +kernel) zSh_70 rfl f21.2.1 ((zup_k _ _ _ _ _ _ (by decide)).trans ((zup_k _ _ _ _ _ _ (by decide)).trans (zup_s _ _ _ _ _))) <|
  WP.iconst (pc2 := 158) (x := -1) rfl (by decide +kernel) (by decide) <|
  WP.callV (y := mX12_vehicleActs) (index := 247) (pc2 := 161) (y' := mX12_sends) (vs := [.inl 1, .inl l1, .inl (hi 69 0 l1), .inl ((hi 70 0 l1) + 1), .inl (-1)]) rfl (by decide +kernel) okX12_sends ⟨by decide, by decide⟩ ⟨lm_X12_247, ivX12_sends⟩ zSh_37 zc_12 (Nat.le_of_ble_eq_true rfl) ⟨rfl, rfl⟩ rfl (WP.c1v f21.2.2 (fun hi11 f12 =>
  WP.vret (by decide +kernel) rfl ⟨rfl, rfl, f12⟩))) (fun h => absurd h (by decide))) (fun h20 => have f22 := f36.2.2.2.2.2 h20
  WP.aload_n (pc2 := 108) (i := 0) rfl (by decide +kernel) rfl <|
  WP.getR (pc2 := 111) rfl (by decide +kernel) zc_12 zSh_37 (by decide) rfl lf_X12_116 rfl (rs_37_49 hM) <|
  WP.iload_n (pc2 := 112) (i := 1) rfl (by decide +kernel) rfl <|
  WP.iaload (pc2 := 113) rfl (by decide +kernel) zSh_70 rfl f22.1 ((zup_k _ _ _ _ _ _ (by decide)).trans ((zup_k _ _ _ _ _ _ (by decide)).trans (zup_s _ _ _ _ _))) <|
  WP.aload_n (pc2 := 114) (i := 0) rfl (by decide +kernel) rfl <|
  WP.getR (pc2 := 117) rfl (by decide +kernel) zc_12 zSh_37 (by decide) rfl lf_X12_67 rfl (rs_37_30 hM) <|
  WP.iload_n (pc2 := 118) (i := 1) rfl (by decide +kernel) rfl <|
  WP.iaload (pc2 := 119) rfl (by decide +kernel) zSh_54 rfl f22.2.1 ((zup_k _ _ _ _ _ _ (by decide)).trans ((zup_k _ _ _ _ _ _ (by decide)).trans ((zup_k _ _ _ _ _ _ (by decide)).trans (zup_k _ _ _ _ _ _ (by decide))))) <|
  WP.icmp_ne (pc2 := 122) (off := 10) (tgt := 129) rfl (by decide +kernel) (by decide) (fun h17 => have f18 := f22.2.2.1 h17
  WP.iload_n (pc2 := 130) (i := 2) rfl (by decide +kernel) rfl <|
  WP.if_ne (pc2 := 133) (off := 12) (tgt := 142) rfl (by decide +kernel) (by decide) (fun _ =>
  WP.aload_n (pc2 := 143) (i := 0) rfl (by decide +kernel) rfl <|
  WP.iconst (pc2 := 144) (x := 1) rfl (by decide +kernel) (by decide) <|
  WP.iload_n (pc2 := 145) (i := 1) rfl (by decide +kernel) rfl <|
  WP.aload_n (pc2 := 146) (i := 0) rfl (by decide +kernel) rfl <|
  WP.getR (pc2 := 149) rfl (by decide +kernel) zc_12 zSh_37 (by decide) rfl lf_X12_113 rfl (rs_37_48 hM) <|
  WP.iload_n (pc2 := 150) (i := 1) rfl (by decide +kernel) rfl <|
  WP.iaload (pc2 := 151) rfl (by decide +kernel) zSh_69 rfl f18.1 ((zup_k _ _ _ _ _ _ (by decide)).trans ((zup_k _ _ _ _ _ _ (by decide)).trans ((zup_k _ _ _ _ _ _ (by decide)).trans (zup_k _ _ _ _ _ _ (by decide))))) <|
  WP.aload_n (pc2 := 152) (i := 0) rfl (by decide +kernel) rfl <|
  WP.getR (pc2 := 155) rfl (by decide +kernel) zc_12 zSh_37 (by decide) rfl lf_X12_116 rfl (rs_37_49 hM) <|
  WP.iload_n (pc2 := 156) (i := 1) rfl (by decide +kernel) rfl <|
  WP.iaload (pc2 := 157) rfl (by decide +kernel) zSh_70 rfl f18.2.1 ((zup_k _ _ _ _ _ _ (by decide)).trans ((zup_k _ _ _ _ _ _ (by decide)).trans (zup_s _ _ _ _ _))) <|
  WP.iconst (pc2 := 158) (x := -1) rfl (by decide +kernel) (by decide) <|
  WP.callV (y := mX12_vehicleActs) (index := 247) (pc2 := 161) (y' := mX12_sends) (vs := [.inl 1, .inl l1, .inl (hi 69 0 l1), .inl ((hi 70 0 l1) + 1), .inl (-1)]) rfl (by decide +kernel) okX12_sends ⟨by decide, by decide⟩ ⟨lm_X12_247, ivX12_sends⟩ zSh_37 zc_12 (Nat.le_of_ble_eq_true rfl) ⟨rfl, rfl⟩ rfl (WP.c1v f18.2.2 (fun hi13 f14 =>
  WP.vret (by decide +kernel) rfl ⟨rfl, rfl, f14⟩))) (fun h => absurd h (by decide))) (fun h17 => have f19 := f22.2.2.2 h17
  WP.aload_n (pc2 := 123) (i := 0) rfl (by decide +kernel) rfl <|
  WP.getR (pc2 := 126) rfl (by decide +kernel) zc_12 zSh_37 (by decide) rfl lf_X12_110 rfl (rs_37_47 hM) <|
  WP.iload_n (pc2 := 127) (i := 1) rfl (by decide +kernel) rfl <|
  WP.iconst (pc2 := 128) (x := 0) rfl (by decide +kernel) (by decide) <|
  WP.iastore (pc2 := 129) rfl (by decide +kernel) zSh_68 rfl f19.1 <|
  WP.iload_n (pc2 := 130) (i := 2) rfl (by decide +kernel) rfl <|
  WP.if_ne (pc2 := 133) (off := 12) (tgt := 142) rfl (by decide +kernel) (by decide) (fun _ =>
  WP.aload_n (pc2 := 143) (i := 0) rfl (by decide +kernel) rfl <|
  WP.iconst (pc2 := 144) (x := 1) rfl (by decide +kernel) (by decide) <|
  WP.iload_n (pc2 := 145) (i := 1) rfl (by decide +kernel) rfl <|
  WP.aload_n (pc2 := 146) (i := 0) rfl (by decide +kernel) rfl <|
  WP.getR (pc2 := 149) rfl (by decide +kernel) zc_12 zSh_37 (by decide) rfl lf_X12_113 rfl (rs_37_48 hM) <|
  WP.iload_n (pc2 := 150) (i := 1) rfl (by decide +kernel) rfl <|
  WP.iaload (pc2 := 151) rfl (by decide +kernel) zSh_69 rfl f19.2.1 ((zup_k _ _ _ _ _ _ (by decide)).trans ((zup_k _ _ _ _ _ _ (by decide)).trans ((zup_k _ _ _ _ _ _ (by decide)).trans ((zup_k _ _ _ _ _ _ (by decide)).trans (zup_k _ _ _ _ _ _ (by decide)))))) <|
  WP.aload_n (pc2 := 152) (i := 0) rfl (by decide +kernel) rfl <|
  WP.getR (pc2 := 155) rfl (by decide +kernel) zc_12 zSh_37 (by decide) rfl lf_X12_116 rfl (rs_37_49 hM) <|
  WP.iload_n (pc2 := 156) (i := 1) rfl (by decide +kernel) rfl <|
  WP.iaload (pc2 := 157) rfl (by decide +kernel) zSh_70 rfl f19.2.2.1 ((zup_k _ _ _ _ _ _ (by decide)).trans ((zup_k _ _ _ _ _ _ (by decide)).trans ((zup_k _ _ _ _ _ _ (by decide)).trans (zup_s _ _ _ _ _)))) <|
  WP.iconst (pc2 := 158) (x := -1) rfl (by decide +kernel) (by decide) <|
  WP.callV (y := mX12_vehicleActs) (index := 247) (pc2 := 161) (y' := mX12_sends) (vs := [.inl 1, .inl l1, .inl (hi 69 0 l1), .inl ((hi 70 0 l1) + 1), .inl (-1)]) rfl (by decide +kernel) okX12_sends ⟨by decide, by decide⟩ ⟨lm_X12_247, ivX12_sends⟩ zSh_37 zc_12 (Nat.le_of_ble_eq_true rfl) ⟨rfl, rfl⟩ rfl (WP.c1v f19.2.2.2 (fun hi15 f16 =>
  WP.vret (by decide +kernel) rfl ⟨rfl, rfl, f16⟩))) (fun h => absurd h (by decide))))) (fun h35 => have f37 := f40.2.2.2.2.2.2.2 h35
  WP.aload_n (pc2 := 68) (i := 0) rfl (by decide +kernel) rfl <|
  WP.getR (pc2 := 71) rfl (by decide +kernel) zc_12 zSh_37 (by decide) rfl lf_X12_110 rfl (rs_37_47 hM) <|
  WP.iload_n (pc2 := 72) (i := 1) rfl (by decide +kernel) rfl <|
  WP.dup2 (pc2 := 73) rfl (by decide +kernel) <|
  WP.iaload (pc2 := 74) rfl (by decide +kernel) zSh_68 rfl f37.1 ((zup_k _ _ _ _ _ _ (by decide)).trans ((zup_k _ _ _ _ _ _ (by decide)).trans (zup_k _ _ _ _ _ _ (by decide)))) <|
  WP.iconst (pc2 := 75) (x := 1) rfl (by decide +kernel) (by decide) <|
  WP.iadd (pc2 := 76) rfl (by decide +kernel) f37.2.1 <|
  WP.iastore (pc2 := 77) rfl (by decide +kernel) zSh_68 rfl f37.2.2.1 <|
  WP.goto (off := 15) (tgt := 92) (by decide +kernel) (by decide) <|
  WP.aload_n (pc2 := 93) (i := 0) rfl (by decide +kernel) rfl <|
  WP.getR (pc2 := 96) rfl (by decide +kernel) zc_12 zSh_37 (by decide) rfl lf_X12_113 rfl (rs_37_48 hM) <|
  WP.iload_n (pc2 := 97) (i := 1) rfl (by decide +kernel) rfl <|
  WP.iaload (pc2 := 98) rfl (by decide +kernel) zSh_69 rfl f37.2.2.2.1 ((zup_k _ _ _ _ _ _ (by decide)).trans ((zup_k _ _ _ _ _ _ (by decide)).trans ((zup_k _ _ _ _ _ _ (by decide)).trans (zup_k _ _ _ _ _ _ (by decide))))) <|
  WP.aload_n (pc2 := 99) (i := 0) rfl (by decide +kernel) rfl <|
  WP.getR (pc2 := 102) rfl (by decide +kernel) zc_12 zSh_37 (by decide) rfl lf_X12_137 rfl (rs_37_57 hM) <|
  WP.iload_n (pc2 := 103) (i := 1) rfl (by decide +kernel) rfl <|
  WP.iaload (pc2 := 104) rfl (by decide +kernel) zSh_77 rfl f37.2.2.2.2.1 ((zup_k _ _ _ _ _ _ (by decide)).trans ((zup_k _ _ _ _ _ _ (by decide)).trans ((zup_k _ _ _ _ _ _ (by decide)).trans (zup_k _ _ _ _ _ _ (by decide))))) <|
  WP.icmp_ne (pc2 := 107) (off := 25) (tgt := 129) rfl (by decide +kernel) (by decide) (fun h32 => have f33 := f37.2.2.2.2.2.1 h32
  WP.iload_n (pc2 := 130) (i := 2) rfl (by decide +kernel) rfl <|
  WP.if_ne (pc2 := 133) (off := 12) (tgt := 142) rfl (by decide +kernel) (by decide) (fun _ =>
  WP.aload_n (pc2 := 143) (i := 0) rfl (by decide +kernel) rfl <|
  WP.iconst (pc2 := 144) (x := 1) rfl (by decide +kernel) (by decide) <|
  WP.iload_n (pc2 := 145) (i := 1) rfl (by decide +kernel) rfl <|
  WP.aload_n (pc2 := 146) (i := 0) rfl (by decide +kernel) rfl <|
  WP.getR (pc2 := 149) rfl (by decide +kernel) zc_12 zSh_37 (by decide) rfl lf_X12_113 rfl (rs_37_48 hM) <|
  WP.iload_n (pc2 := 150) (i := 1) rfl (by decide +kernel) rfl <|
  WP.iaload (pc2 := 151) rfl (by decide +kernel) zSh_69 rfl f33.1 ((zup_k _ _ _ _ _ _ (by decide)).trans ((zup_k _ _ _ _ _ _ (by decide)).trans ((zup_k _ _ _ _ _ _ (by decide)).trans (zup_k _ _ _ _ _ _ (by decide))))) <|
  WP.aload_n (pc2 := 152) (i := 0) rfl (by decide +kernel) rfl <|
  WP.getR (pc2 := 155) rfl (by decide +kernel) zc_12 zSh_37 (by decide) rfl lf_X12_116 rfl (rs_37_49 hM) <|
  WP.iload_n (pc2 := 156) (i := 1) rfl (by decide +kernel) rfl <|
  WP.iaload (pc2 := 157) rfl (by decide +kernel) zSh_70 rfl f33.2.1 ((zup_k _ _ _ _ _ _ (by decide)).trans ((zup_k _ _ _ _ _ _ (by decide)).trans (zup_s _ _ _ _ _))) <|
  WP.iconst (pc2 := 158) (x := -1) rfl (by decide +kernel) (by decide) <|
  WP.callV (y := mX12_vehicleActs) (index := 247) (pc2 := 161) (y' := mX12_sends) (vs := [.inl 1, .inl l1, .inl (hi 69 0 l1), .inl ((hi 70 0 l1) + 1), .inl (-1)]) rfl (by decide +kernel) okX12_sends ⟨by decide, by decide⟩ ⟨lm_X12_247, ivX12_sends⟩ zSh_37 zc_12 (Nat.le_of_ble_eq_true rfl) ⟨rfl, rfl⟩ rfl (WP.c1v f33.2.2 (fun hi23 f24 =>
  WP.vret (by decide +kernel) rfl ⟨rfl, rfl, f24⟩))) (fun h => absurd h (by decide))) (fun h32 => have f34 := f37.2.2.2.2.2.2 h32
  WP.aload_n (pc2 := 108) (i := 0) rfl (by decide +kernel) rfl <|
  WP.getR (pc2 := 111) rfl (by decide +kernel) zc_12 zSh_37 (by decide) rfl lf_X12_116 rfl (rs_37_49 hM) <|
  WP.iload_n (pc2 := 112) (i := 1) rfl (by decide +kernel) rfl <|
  WP.iaload (pc2 := 113) rfl (by decide +kernel) zSh_70 rfl f34.1 ((zup_k _ _ _ _ _ _ (by decide)).trans ((zup_k _ _ _ _ _ _ (by decide)).trans (zup_s _ _ _ _ _))) <|
  WP.aload_n (pc2 := 114) (i := 0) rfl (by decide +kernel) rfl <|
  WP.getR (pc2 := 117) rfl (by decide +kernel) zc_12 zSh_37 (by decide) rfl lf_X12_67 rfl (rs_37_30 hM) <|
  WP.iload_n (pc2 := 118) (i := 1) rfl (by decide +kernel) rfl <|
  WP.iaload (pc2 := 119) rfl (by decide +kernel) zSh_54 rfl f34.2.1 ((zup_k _ _ _ _ _ _ (by decide)).trans ((zup_k _ _ _ _ _ _ (by decide)).trans ((zup_k _ _ _ _ _ _ (by decide)).trans (zup_k _ _ _ _ _ _ (by decide))))) <|
  WP.icmp_ne (pc2 := 122) (off := 10) (tgt := 129) rfl (by decide +kernel) (by decide) (fun h29 => have f30 := f34.2.2.1 h29
  WP.iload_n (pc2 := 130) (i := 2) rfl (by decide +kernel) rfl <|
  WP.if_ne (pc2 := 133) (off := 12) (tgt := 142) rfl (by decide +kernel) (by decide) (fun _ =>
  WP.aload_n (pc2 := 143) (i := 0) rfl (by decide +kernel) rfl <|
  WP.iconst (pc2 := 144) (x := 1) rfl (by decide +kernel) (by decide) <|
  WP.iload_n (pc2 := 145) (i := 1) rfl (by decide +kernel) rfl <|
  WP.aload_n (pc2 := 146) (i := 0) rfl (by decide +kernel) rfl <|
  WP.getR (pc2 := 149) rfl (by decide +kernel) zc_12 zSh_37 (by decide) rfl lf_X12_113 rfl (rs_37_48 hM) <|
  WP.iload_n (pc2 := 150) (i := 1) rfl (by decide +kernel) rfl <|
  WP.iaload (pc2 := 151) rfl (by decide +kernel) zSh_69 rfl f30.1 ((zup_k _ _ _ _ _ _ (by decide)).trans ((zup_k _ _ _ _ _ _ (by decide)).trans ((zup_k _ _ _ _ _ _ (by decide)).trans (zup_k _ _ _ _ _ _ (by decide))))) <|
  WP.aload_n (pc2 := 152) (i := 0) rfl (by decide +kernel) rfl <|
  WP.getR (pc2 := 155) rfl (by decide +kernel) zc_12 zSh_37 (by decide) rfl lf_X12_116 rfl (rs_37_49 hM) <|
  WP.iload_n (pc2 := 156) (i := 1) rfl (by decide +kernel) rfl <|
  WP.iaload (pc2 := 157) rfl (by decide +kernel) zSh_70 rfl f30.2.1 ((zup_k _ _ _ _ _ _ (by decide)).trans ((zup_k _ _ _ _ _ _ (by decide)).trans (zup_s _ _ _ _ _))) <|
  WP.iconst (pc2 := 158) (x := -1) rfl (by decide +kernel) (by decide) <|
  WP.callV (y := mX12_vehicleActs) (index := 247) (pc2 := 161) (y' := mX12_sends) (vs := [.inl 1, .inl l1, .inl (hi 69 0 l1), .inl ((hi 70 0 l1) + 1), .inl (-1)]) rfl (by decide +kernel) okX12_sends ⟨by decide, by decide⟩ ⟨lm_X12_247, ivX12_sends⟩ zSh_37 zc_12 (Nat.le_of_ble_eq_true rfl) ⟨rfl, rfl⟩ rfl (WP.c1v f30.2.2 (fun hi25 f26 =>
  WP.vret (by decide +kernel) rfl ⟨rfl, rfl, f26⟩))) (fun h => absurd h (by decide))) (fun h29 => have f31 := f34.2.2.2 h29
  WP.aload_n (pc2 := 123) (i := 0) rfl (by decide +kernel) rfl <|
  WP.getR (pc2 := 126) rfl (by decide +kernel) zc_12 zSh_37 (by decide) rfl lf_X12_110 rfl (rs_37_47 hM) <|
  WP.iload_n (pc2 := 127) (i := 1) rfl (by decide +kernel) rfl <|
  WP.iconst (pc2 := 128) (x := 0) rfl (by decide +kernel) (by decide) <|
  WP.iastore (pc2 := 129) rfl (by decide +kernel) zSh_68 rfl f31.1 <|
  WP.iload_n (pc2 := 130) (i := 2) rfl (by decide +kernel) rfl <|
  WP.if_ne (pc2 := 133) (off := 12) (tgt := 142) rfl (by decide +kernel) (by decide) (fun _ =>
  WP.aload_n (pc2 := 143) (i := 0) rfl (by decide +kernel) rfl <|
  WP.iconst (pc2 := 144) (x := 1) rfl (by decide +kernel) (by decide) <|
  WP.iload_n (pc2 := 145) (i := 1) rfl (by decide +kernel) rfl <|
  WP.aload_n (pc2 := 146) (i := 0) rfl (by decide +kernel) rfl <|
  WP.getR (pc2 := 149) rfl (by decide +kernel) zc_12 zSh_37 (by decide) rfl lf_X12_113 rfl (rs_37_48 hM) <|
  WP.iload_n (pc2 := 150) (i := 1) rfl (by decide +kernel) rfl <|
  WP.iaload (pc2 := 151) rfl (by decide +kernel) zSh_69 rfl f31.2.1 ((zup_k _ _ _ _ _ _ (by decide)).trans ((zup_k _ _ _ _ _ _ (by decide)).trans ((zup_k _ _ _ _ _ _ (by decide)).trans ((zup_k _ _ _ _ _ _ (by decide)).trans (zup_k _ _ _ _ _ _ (by decide)))))) <|
  WP.aload_n (pc2 := 152) (i := 0) rfl (by decide +kernel) rfl <|
  WP.getR (pc2 := 155) rfl (by decide +kernel) zc_12 zSh_37 (by decide) rfl lf_X12_116 rfl (rs_37_49 hM) <|
  WP.iload_n (pc2 := 156) (i := 1) rfl (by decide +kernel) rfl <|
  WP.iaload (pc2 := 157) rfl (by decide +kernel) zSh_70 rfl f31.2.2.1 ((zup_k _ _ _ _ _ _ (by decide)).trans ((zup_k _ _ _ _ _ _ (by decide)).trans ((zup_k _ _ _ _ _ _ (by decide)).trans (zup_s _ _ _ _ _)))) <|
  WP.iconst (pc2 := 158) (x := -1) rfl (by decide +kernel) (by decide) <|
  WP.callV (y := mX12_vehicleActs) (index := 247) (pc2 := 161) (y' := mX12_sends) (vs := [.inl 1, .inl l1, .inl (hi 69 0 l1), .inl ((hi 70 0 l1) + 1), .inl (-1)]) rfl (by decide +kernel) okX12_sends ⟨by decide, by decide⟩ ⟨lm_X12_247, ivX12_sends⟩ zSh_37 zc_12 (Nat.le_of_ble_eq_true rfl) ⟨rfl, rfl⟩ rfl (WP.c1v f31.2.2.2 (fun hi27 f28 =>
  WP.vret (by decide +kernel) rfl ⟨rfl, rfl, f28⟩))) (fun h => absurd h (by decide)))))))))
set_option maxRecDepth 100000 in
set_option maxHeartbeats 4000000 in
theorem GX12_reporting {hi : zI} {hr : zR} {P : zI → Prop} (hM : RSm hr) (l1 : Int) (l2 : Int) (l3 : Int) 
    (F : (0 ≤ l1 ∧ l1 < 6) ∧ ((l2 < hi 75 0 l1 → P hi) ∧ (hi 75 0 l1 ≤ l2 → ((0 ≤ l1 ∧ l1 < 6) ∧ ((l2 ≠ hi 75 0 l1 → ((0 ≤ l1 ∧ l1 < 6) ∧ ((0 ≤ l1 ∧ l1 < 6) ∧ (P (zup (zup hi 75 0 l1 l2) 76 0 l1 l3))))) ∧ (l2 = hi 75 0 l1 → ((0 ≤ l1 ∧ l1 < 6) ∧ ((hi 76 0 l1 < l3 → ((0 ≤ l1 ∧ l1 < 6) ∧ ((0 ≤ l1 ∧ l1 < 6) ∧ (P (zup (zup hi 75 0 l1 l2) 76 0 l1 l3))))) ∧ (l3 ≤ hi 76 0 l1 → P hi))))))))) :
    W1v mX12_reporting [.inr (some (37, 0)), .inl l1, .inl l2, .inl l3] hi hr P :=
  WPm.of rfl (show WP mX12_reporting 0 [some (.inr (some (37, 0))), some (.inl l1), some (.inl l2), some (.inl l3)] [] hi hr (zQ1v hr P) from
  WP.iload_n (pc2 := 1) (i := 2) rfl (by decide +kernel) rfl <|
  WP.aload_n (pc2 := 2) (i := 0) rfl (by decide +kernel) rfl <|
  WP.getR (pc2 := 5) rfl (by decide +kernel) zc_12 zSh_37 (by decide) rfl lf_X12_131 rfl (rs_37_55 hM) <|
  WP.iload_n (pc2 := 6) (i := 1) rfl (by decide +kernel) rfl <|
  WP.iaload (pc2 := 7) rfl (by decide +kernel) zSh_75 rfl F.1 rfl <|
  WP.icmp_lt (pc2 := 10) (off := 23) (tgt := 30) rfl (by decide +kernel) (by decide) (fun h7 => have f8 := F.2.1 h7
  WP.vret (by decide +kernel) rfl ⟨rfl, rfl, f8⟩) (fun h7 => have f9 := F.2.2 h7
  WP.iload_n (pc2 := 11) (i := 2) rfl (by decide +kernel) rfl <|
  WP.aload_n (pc2 := 12) (i := 0) rfl (by decide +kernel) rfl <|
  WP.getR (pc2 := 15) rfl (by decide +kernel) zc_12 zSh_37 (by decide) rfl lf_X12_131 rfl (rs_37_55 hM) <|
  WP.iload_n (pc2 := 16) (i := 1) rfl (by decide +kernel) rfl <|
  WP.iaload (pc2 := 17) rfl (by decide +kernel) zSh_75 rfl f9.1 rfl <|
  WP.icmp_ne (pc2 := 20) (off := 14) (tgt := 31) rfl (by decide +kernel) (by decide) (fun h4 => have f5 := f9.2.1 h4
  WP.aload_n (pc2 := 32) (i := 0) rfl (by decide +kernel) rfl <|
  WP.getR (pc2 := 35) rfl (by decide +kernel) zc_12 zSh_37 (by decide) rfl lf_X12_131 rfl (rs_37_55 hM) <|
  WP.iload_n (pc2 := 36) (i := 1) rfl (by decide +kernel) rfl <|
  WP.iload_n (pc2 := 37) (i := 2) rfl (by decide +kernel) rfl <|
  WP.iastore (pc2 := 38) rfl (by decide +kernel) zSh_75 rfl f5.1 <|
  WP.aload_n (pc2 := 39) (i := 0) rfl (by decide +kernel) rfl <|
  WP.getR (pc2 := 42) rfl (by decide +kernel) zc_12 zSh_37 (by decide) rfl lf_X12_134 rfl (rs_37_56 hM) <|
  WP.iload_n (pc2 := 43) (i := 1) rfl (by decide +kernel) rfl <|
  WP.iload_n (pc2 := 44) (i := 3) rfl (by decide +kernel) rfl <|
  WP.iastore (pc2 := 45) rfl (by decide +kernel) zSh_76 rfl f5.2.1 <|
  WP.vret (by decide +kernel) rfl ⟨rfl, rfl, f5.2.2⟩) (fun h4 => have f6 := f9.2.2 h4
  WP.iload_n (pc2 := 21) (i := 3) rfl (by decide +kernel) rfl <|
  WP.aload_n (pc2 := 22) (i := 0) rfl (by decide +kernel) rfl <|
  WP.getR (pc2 := 25) rfl (by decide +kernel) zc_12 zSh_37 (by decide) rfl lf_X12_134 rfl (rs_37_56 hM) <|
  WP.iload_n (pc2 := 26) (i := 1) rfl (by decide +kernel) rfl <|
  WP.iaload (pc2 := 27) rfl (by decide +kernel) zSh_76 rfl f6.1 rfl <|
  WP.icmp_gt (pc2 := 30) (off := 4) (tgt := 31) rfl (by decide +kernel) (by decide) (fun h1 => have f2 := f6.2.1 h1
  WP.aload_n (pc2 := 32) (i := 0) rfl (by decide +kernel) rfl <|
  WP.getR (pc2 := 35) rfl (by decide +kernel) zc_12 zSh_37 (by decide) rfl lf_X12_131 rfl (rs_37_55 hM) <|
  WP.iload_n (pc2 := 36) (i := 1) rfl (by decide +kernel) rfl <|
  WP.iload_n (pc2 := 37) (i := 2) rfl (by decide +kernel) rfl <|
  WP.iastore (pc2 := 38) rfl (by decide +kernel) zSh_75 rfl f2.1 <|
  WP.aload_n (pc2 := 39) (i := 0) rfl (by decide +kernel) rfl <|
  WP.getR (pc2 := 42) rfl (by decide +kernel) zc_12 zSh_37 (by decide) rfl lf_X12_134 rfl (rs_37_56 hM) <|
  WP.iload_n (pc2 := 43) (i := 1) rfl (by decide +kernel) rfl <|
  WP.iload_n (pc2 := 44) (i := 3) rfl (by decide +kernel) rfl <|
  WP.iastore (pc2 := 45) rfl (by decide +kernel) zSh_76 rfl f2.2.1 <|
  WP.vret (by decide +kernel) rfl ⟨rfl, rfl, f2.2.2⟩) (fun h1 => have f3 := f6.2.2 h1
  WP.vret (by decide +kernel) rfl ⟨rfl, rfl, f3⟩))))
set_option maxRecDepth 100000 in
set_option maxHeartbeats 4000000 in
theorem GX12_known {hi : zI} {hr : zR} {P : Int → Prop} (hM : RSm hr) (l1 : Int) 
    (F : (0 ≤ l1 ∧ l1 < 6) ∧ ((0 ≤ l1 ∧ l1 < 6) ∧ ((hi 75 0 l1 ≠ hi 77 0 l1 → P 0) ∧ (hi 75 0 l1 = hi 77 0 l1 → ((0 ≤ l1 ∧ l1 < 6) ∧ (P (hi 76 0 l1))))))) :
    W0i mX12_known [.inr (some (37, 0)), .inl l1] hi hr P :=
  WPm.of rfl (show WP mX12_known 0 [some (.inr (some (37, 0))), some (.inl l1)] [] hi hr (zQ0i hi hr P) from
  WP.aload_n (pc2 := 1) (i := 0) rfl (by decide +kernel) rfl <|
  WP.getR (pc2 := 4) rfl (by decide +kernel) zc_12 zSh_37 (by decide) rfl lf_X12_131 rfl (rs_37_55 hM) <|
  WP.iload_n (pc2 := 5) (i := 1) rfl (by decide +kernel) rfl <|
  WP.iaload (pc2 := 6) rfl (by decide +kernel) zSh_75 rfl F.1 rfl <|
  WP.aload_n (pc2 := 7) (i := 0) rfl (by decide +kernel) rfl <|
  WP.getR (pc2 := 10) rfl (by decide +kernel) zc_12 zSh_37 (by decide) rfl lf_X12_137 rfl (rs_37_57 hM) <|
  WP.iload_n (pc2 := 11) (i := 1) rfl (by decide +kernel) rfl <|
  WP.iaload (pc2 := 12) rfl (by decide +kernel) zSh_77 rfl F.2.1 rfl <|
  WP.icmp_ne (pc2 := 15) (off := 12) (tgt := 24) rfl (by decide +kernel) (by decide) (fun h1 => have f2 := F.2.2.1 h1
  WP.iconst (pc2 := 25) (x := 0) rfl (by decide +kernel) (by decide) <|
  WP.iret (by decide +kernel) rfl (fun hx => ⟨_, rfl, hx, rfl, rfl, f2⟩)) (fun h1 => have f3 := F.2.2.2 h1
  WP.aload_n (pc2 := 16) (i := 0) rfl (by decide +kernel) rfl <|
  WP.getR (pc2 := 19) rfl (by decide +kernel) zc_12 zSh_37 (by decide) rfl lf_X12_134 rfl (rs_37_56 hM) <|
  WP.iload_n (pc2 := 20) (i := 1) rfl (by decide +kernel) rfl <|
  WP.iaload (pc2 := 21) rfl (by decide +kernel) zSh_76 rfl f3.1 rfl <|
  WP.goto (off := 4) (tgt := 25) (by decide +kernel) (by decide) <|
  WP.iret (by decide +kernel) rfl (fun hx => ⟨_, rfl, hx, rfl, rfl, f3.2⟩)))
set_option maxRecDepth 100000 in
set_option maxHeartbeats 4000000 in
theorem GX12_isOver {hi : zI} {hr : zR} {P : Int → Prop} (hM : RSm hr) (l1 : Int) (l2 : Int) 
    (F : (0 ≤ l1 ∧ l1 < 6) ∧ (WP mX12_isOver 10 [some (.inr (some (37, 0))), some (.inl l1), some (.inl l2), some (.inl (-1)), some (.inl (hi 54 0 l1))] [] hi hr (zQ0i hi hr P))) :
    W0i mX12_isOver [.inr (some (37, 0)), .inl l1, .inl l2] hi hr P :=
  WPm.of rfl (show WP mX12_isOver 0 [some (.inr (some (37, 0))), some (.inl l1), some (.inl l2), none, none] [] hi hr (zQ0i hi hr P) from
  WP.iconst (pc2 := 1) (x := -1) rfl (by decide +kernel) (by decide) <|
  WP.istore_n (pc2 := 2) (i := 3) rfl (by decide +kernel) (by decide) <|
  WP.aload_n (pc2 := 3) (i := 0) rfl (by decide +kernel) rfl <|
  WP.getR (pc2 := 6) rfl (by decide +kernel) zc_12 zSh_37 (by decide) rfl lf_X12_67 rfl (rs_37_30 hM) <|
  WP.iload_n (pc2 := 7) (i := 1) rfl (by decide +kernel) rfl <|
  WP.iaload (pc2 := 8) rfl (by decide +kernel) zSh_54 rfl F.1 rfl <|
  WP.istore (pc2 := 10) (i := 4) rfl (by decide +kernel) (by decide) <|
  F.2)

set_option maxRecDepth 100000 in
set_option maxHeartbeats 4000000 in
theorem GX12_isOver_10 {hi : zI} {hr : zR} {P : Int → Prop} (hM : RSm hr) (l1 : Int) (l2 : Int) (a3 : Int) (a4 : Int) 
    (F : (a4 ≤ l2 → ((a3 ≠ -1 → (W0i mX12_known [.inr (some (37, 0)), .inl l1] hi hr (fun (x1 : Int) => (x1 < a3 → P 0) ∧ (a3 ≤ x1 → P 1)))) ∧ (a3 = -1 → (W0i mX12_known [.inr (some (37, 0)), .inl l1] hi hr (fun (x6 : Int) => (0 ≤ l1 ∧ l1 < 6) ∧ ((x6 ≠ hi 54 0 l1 → P 0) ∧ (x6 = hi 54 0 l1 → P 1))))))) ∧ (l2 < a4 → ((zInR (301 * l1)) ∧ ((zInR ((301 * l1) + a4)) ∧ ((0 ≤ (301 * l1) + a4 ∧ (301 * l1) + a4 < 1806) ∧ ((hi 55 0 ((301 * l1) + a4) = -1 → ((zInR (a4 + (-1))) ∧ (WP mX12_isOver 10 [some (.inr (some (37, 0))), some (.inl l1), some (.inl l2), some (.inl a3), some (.inl (a4 + (-1)))] [] hi hr (zQ0i hi hr P)))) ∧ (hi 55 0 ((301 * l1) + a4) ≠ -1 → ((zInR (a4 + (-1))) ∧ (WP mX12_isOver 10 [some (.inr (some (37, 0))), some (.inl l1), some (.inl l2), some (.inl a4), some (.inl (a4 + (-1)))] [] hi hr (zQ0i hi hr P)))))))))) :
    WP mX12_isOver 10 [some (.inr (some (37, 0))), some (.inl l1), some (.inl l2), some (.inl a3), some (.inl a4)] [] hi hr (zQ0i hi hr P) :=
  WP.iload (pc2 := 12) (i := 4) rfl (by decide +kernel) rfl <|
  WP.iload_n (pc2 := 13) (i := 2) rfl (by decide +kernel) rfl <|
  WP.icmp_le (pc2 := 16) (off := 29) (tgt := 42) rfl (by decide +kernel) (by decide) (fun h17 => have f18 := F.1 h17
  WP.iload_n (pc2 := 43) (i := 3) rfl (by decide +kernel) rfl <|
  WP.iconst (pc2 := 44) (x := -1) rfl (by decide +kernel) (by decide) <|
  WP.icmp_ne (pc2 := 47) (off := 25) (tgt := 69) rfl (by decide +kernel) (by decide) (fun h11 => have f12 := f18.1 h11
  WP.aload_n (pc2 := 70) (i := 0) rfl (by decide +kernel) rfl <|
  WP.iload_n (pc2 := 71) (i := 1) rfl (by decide +kernel) rfl <|
  WP.callV (y := mX12_isOver) (index := 251) (pc2 := 74) (y' := mX12_known) (vs := [.inl l1]) rfl (by decide +kernel) okX12_known ⟨by decide, by decide⟩ ⟨lm_X12_251, ivX12_known⟩ zSh_37 zc_12 (Nat.le_of_ble_eq_true rfl) ⟨rfl, rfl⟩ rfl (WP.c0i f12 (fun x1 _ f5 =>
  WP.iload_n (pc2 := 75) (i := 3) rfl (by decide +kernel) rfl <|
  WP.icmp_lt (pc2 := 78) (off := 7) (tgt := 82) rfl (by decide +kernel) (by decide) (fun h2 => have f3 := f5.1 h2
  WP.iconst (pc2 := 83) (x := 0) rfl (by decide +kernel) (by decide) <|
  WP.zret (by decide +kernel) rfl (by decide) (fun hx => ⟨_, rfl, hx, rfl, rfl, f3⟩)) (fun h2 => have f4 := f5.2 h2
  WP.iconst (pc2 := 79) (x := 1) rfl (by decide +kernel) (by decide) <|
  WP.goto (off := 4) (tgt := 83) (by decide +kernel) (by decide) <|
  WP.zret (by decide +kernel) rfl (by decide) (fun hx => ⟨_, rfl, hx, rfl, rfl, f4⟩))))) (fun h11 => have f13 := f18.2 h11
  WP.aload_n (pc2 := 48) (i := 0) rfl (by decide +kernel) rfl <|
  WP.iload_n (pc2 := 49) (i := 1) rfl (by decide +kernel) rfl <|
  WP.callV (y := mX12_isOver) (index := 251) (pc2 := 52) (y' := mX12_known) (vs := [.inl l1]) rfl (by decide +kernel) okX12_known ⟨by decide, by decide⟩ ⟨lm_X12_251, ivX12_known⟩ zSh_37 zc_12 (Nat.le_of_ble_eq_true rfl) ⟨rfl, rfl⟩ rfl (WP.c0i f13 (fun x6 _ f10 =>
  WP.aload_n (pc2 := 53) (i := 0) rfl (by decide +kernel) rfl <|
  WP.getR (pc2 := 56) rfl (by decide +kernel) zc_12 zSh_37 (by decide) rfl lf_X12_67 rfl (rs_37_30 hM) <|
  WP.iload_n (pc2 := 57) (i := 1) rfl (by decide +kernel) rfl <|
  WP.iaload (pc2 := 58) rfl (by decide +kernel) zSh_54 rfl f10.1 rfl <|
  WP.icmp_ne (pc2 := 61) (off := 7) (tgt := 65) rfl (by decide +kernel) (by decide) (fun h7 => have f8 := f10.2.1 h7
  WP.iconst (pc2 := 66) (x := 0) rfl (by decide +kernel) (by decide) <|
  WP.goto (off := 17) (tgt := 83) (by decide +kernel) (by decide) <|
  WP.zret (by decide +kernel) rfl (by decide) (fun hx => ⟨_, rfl, hx, rfl, rfl, f8⟩)) (fun h7 => have f9 := f10.2.2 h7
  WP.iconst (pc2 := 62) (x := 1) rfl (by decide +kernel) (by decide) <|
  WP.goto (off := 21) (tgt := 83) (by decide +kernel) (by decide) <|
  WP.zret (by decide +kernel) rfl (by decide) (fun hx => ⟨_, rfl, hx, rfl, rfl, f9⟩)))))) (fun h17 => have f19 := F.2 h17
  WP.aload_n (pc2 := 17) (i := 0) rfl (by decide +kernel) rfl <|
  WP.getR (pc2 := 20) rfl (by decide +kernel) zc_12 zSh_37 (by decide) rfl lf_X12_70 rfl (rs_37_31 hM) <|
  WP.sipush (pc2 := 23) (x := 301) rfl (by decide +kernel) ⟨by decide +kernel, by decide⟩ <|
  WP.iload_n (pc2 := 24) (i := 1) rfl (by decide +kernel) rfl <|
  WP.imul (pc2 := 25) rfl (by decide +kernel) f19.1 <|
  WP.iload (pc2 := 27) (i := 4) rfl (by decide +kernel) rfl <|
  WP.iadd (pc2 := 28) rfl (by decide +kernel) f19.2.1 <|
  WP.iaload (pc2 := 29) rfl (by decide +kernel) zSh_55 rfl f19.2.2.1 rfl <|
  WP.iconst (pc2 := 30) (x := -1) rfl (by decide +kernel) (by decide) <|
  WP.icmp_eq (pc2 := 33) (off := 6) (tgt := 36) rfl (by decide +kernel) (by decide) (fun h14 => have f15 := f19.2.2.2.1 h14
  WP.iinc (pc2 := 39) (i := 4) (d := -1) rfl (by decide +kernel) rfl f15.1 <|
  WP.goto (off := -29) (tgt := 10) (by decide +kernel) (by decide) <|
  f15.2) (fun h14 => have f16 := f19.2.2.2.2 h14
  WP.iload (pc2 := 35) (i := 4) rfl (by decide +kernel) rfl <|
  WP.istore_n (pc2 := 36) (i := 3) rfl (by decide +kernel) (by decide) <|
  WP.iinc (pc2 := 39) (i := 4) (d := -1) rfl (by decide +kernel) rfl f16.1 <|
  WP.goto (off := -29) (tgt := 10) (by decide +kernel) (by decide) <|
  f16.2))
set_option maxRecDepth 100000 in
set_option maxHeartbeats 4000000 in
theorem GX12_waitFor {hi : zI} {hr : zR} {P : zI → Prop} (l1 : Int) 
    (F : WP mX12_waitFor 17 [some (.inr (some (37, 0))), some (.inl l1), some (.inl 0), none] [] (zup (zup (zup hi 37 0 62 0) 37 0 63 (-1)) 37 0 64 (-1)) hr (zQ1v hr P)) :
    W1v mX12_waitFor [.inr (some (37, 0)), .inl l1] hi hr P :=
  WPm.of rfl (show WP mX12_waitFor 0 [some (.inr (some (37, 0))), some (.inl l1), none, none] [] hi hr (zQ1v hr P) from
  WP.aload_n (pc2 := 1) (i := 0) rfl (by decide +kernel) rfl <|
  WP.iconst (pc2 := 2) (x := 0) rfl (by decide +kernel) (by decide) <|
  WP.putI (pc2 := 5) rfl (by decide +kernel) zc_12 zSh_37 (by decide) rfl lf_X12_254 rfl (z_int _) rfl <|
  WP.aload_n (pc2 := 6) (i := 0) rfl (by decide +kernel) rfl <|
  WP.iconst (pc2 := 7) (x := -1) rfl (by decide +kernel) (by decide) <|
  WP.putI (pc2 := 10) rfl (by decide +kernel) zc_12 zSh_37 (by decide) rfl lf_X12_257 rfl (z_int _) rfl <|
  WP.aload_n (pc2 := 11) (i := 0) rfl (by decide +kernel) rfl <|
  WP.iconst (pc2 := 12) (x := -1) rfl (by decide +kernel) (by decide) <|
  WP.putI (pc2 := 15) rfl (by decide +kernel) zc_12 zSh_37 (by decide) rfl lf_X12_260 rfl (z_int _) rfl <|
  WP.iconst (pc2 := 16) (x := 0) rfl (by decide +kernel) (by decide) <|
  WP.istore_n (pc2 := 17) (i := 2) rfl (by decide +kernel) (by decide) <|
  F)

set_option maxRecDepth 100000 in
set_option maxHeartbeats 4000000 in
theorem GX12_waitFor_27 {hi : zI} {hr : zR} {P : zI → Prop} (hM : RSm hr) (l1 : Int) (a2 : Int) (a3 : Int) 
    (F : (0 ≤ a2 ∧ a2 < 6) ∧ ((hi 54 0 a2 < a3 → ((zInR (a2 + 1)) ∧ (WP mX12_waitFor 17 [some (.inr (some (37, 0))), some (.inl l1), some (.inl (a2 + 1)), some (.inl a3)] [] hi hr (zQ1v hr P)))) ∧ (a3 ≤ hi 54 0 a2 → ((zInR (301 * a2)) ∧ ((zInR ((301 * a2) + a3)) ∧ ((0 ≤ (301 * a2) + a3 ∧ (301 * a2) + a3 < 1806) ∧ ((hi 55 0 ((301 * a2) + a3) ≠ l1 → ((zInR (a3 + 1)) ∧ (WP mX12_waitFor 27 [some (.inr (some (37, 0))), some (.inl l1), some (.inl a2), some (.inl (a3 + 1))] [] hi hr (zQ1v hr P)))) ∧ (hi 55 0 ((301 * a2) + a3) = l1 → (W0i mX12_isOver [.inr (some (37, 0)), .inl a2, .inl a3] hi hr (fun (x4 : Int) => (x4 = 0 → ((zInR ((hi 37 0 62) + 1)) ∧ ((hi 37 0 63 = -1 → ((zInR (a3 + 1)) ∧ (WP mX12_waitFor 27 [some (.inr (some (37, 0))), some (.inl l1), some (.inl a2), some (.inl (a3 + 1))] [] (zup (zup (zup hi 37 0 62 ((hi 37 0 62) + 1)) 37 0 63 a2) 37 0 64 a3) hr (zQ1v hr P)))) ∧ (hi 37 0 63 ≠ -1 → ((zInR (301 * (hi 37 0 63))) ∧ ((zInR ((301 * (hi 37 0 63)) + (hi 37 0 64))) ∧ ((0 ≤ (301 * (hi 37 0 63)) + (hi 37 0 64) ∧ (301 * (hi 37 0 63)) + (hi 37 0 64) < 1806) ∧ ((zInR (301 * a2)) ∧ ((zInR ((301 * a2) + a3)) ∧ ((0 ≤ (301 * a2) + a3 ∧ (301 * a2) + a3 < 1806) ∧ ((hi 56 0 ((301 * a2) + a3) < hi 56 0 ((301 * (hi 37 0 63)) + (hi 37 0 64)) → ((zInR (a3 + 1)) ∧ (WP mX12_waitFor 27 [some (.inr (some (37, 0))), some (.inl l1), some (.inl a2), some (.inl (a3 + 1))] [] (zup (zup (zup hi 37 0 62 ((hi 37 0 62) + 1)) 37 0 63 a2) 37 0 64 a3) hr (zQ1v hr P)))) ∧ (hi 56 0 ((301 * (hi 37 0 63)) + (hi 37 0 64)) ≤ hi 56 0 ((301 * a2) + a3) → ((zInR (a3 + 1)) ∧ (WP mX12_waitFor 27 [some (.inr (some (37, 0))), some (.inl l1), some (.inl a2), some (.inl (a3 + 1))] [] (zup hi 37 0 62 ((hi 37 0 62) + 1)) hr (zQ1v hr P))))))))))))))) ∧ (x4 ≠ 0 → ((zInR (a3 + 1)) ∧ (WP mX12_waitFor 27 [some (.inr (some (37, 0))), some (.inl l1), some (.inl a2), some (.inl (a3 + 1))] [] hi hr (zQ1v hr P)))))))))))))) :
    WP mX12_waitFor 27 [some (.inr (some (37, 0))), some (.inl l1), some (.inl a2), some (.inl a3)] [] hi hr (zQ1v hr P) :=
  WP.iload_n (pc2 := 28) (i := 3) rfl (by decide +kernel) rfl <|
  WP.aload_n (pc2 := 29) (i := 0) rfl (by decide +kernel) rfl <|
  WP.getR (pc2 := 32) rfl (by decide +kernel) zc_12 zSh_37 (by decide) rfl lf_X12_67 rfl (rs_37_30 hM) <|
  WP.iload_n (pc2 := 33) (i := 2) rfl (by decide +kernel) rfl <|
  WP.iaload (pc2 := 34) rfl (by decide +kernel) zSh_54 rfl F.1 rfl <|
  WP.icmp_gt (pc2 := 37) (off := 101) (tgt := 135) rfl (by decide +kernel) (by decide) (fun h18 => have f19 := F.2.1 h18
  WP.iinc (pc2 := 138) (i := 2) (d := 1) rfl (by decide +kernel) rfl f19.1 <|
  WP.goto (off := -121) (tgt := 17) (by decide +kernel) (by decide) <|
  f19.2) (fun h18 => have f20 := F.2.2 h18
  WP.aload_n (pc2 := 38) (i := 0) rfl (by decide +kernel) rfl <|
  WP.getR (pc2 := 41) rfl (by decide +kernel) zc_12 zSh_37 (by decide) rfl lf_X12_70 rfl (rs_37_31 hM) <|
  WP.sipush (pc2 := 44) (x := 301) rfl (by decide +kernel) ⟨by decide +kernel, by decide⟩ <|
  WP.iload_n (pc2 := 45) (i := 2) rfl (by decide +kernel) rfl <|
  WP.imul (pc2 := 46) rfl (by decide +kernel) f20.1 <|
  WP.iload_n (pc2 := 47) (i := 3) rfl (by decide +kernel) rfl <|
  WP.iadd (pc2 := 48) rfl (by decide +kernel) f20.2.1 <|
  WP.iaload (pc2 := 49) rfl (by decide +kernel) zSh_55 rfl f20.2.2.1 rfl <|
  WP.iload_n (pc2 := 50) (i := 1) rfl (by decide +kernel) rfl <|
  WP.icmp_ne (pc2 := 53) (off := 79) (tgt := 129) rfl (by decide +kernel) (by decide) (fun h15 => have f16 := f20.2.2.2.1 h15
  WP.iinc (pc2 := 132) (i := 3) (d := 1) rfl (by decide +kernel) rfl f16.1 <|
  WP.goto (off := -105) (tgt := 27) (by decide +kernel) (by decide) <|
  f16.2) (fun h15 => have f17 := f20.2.2.2.2 h15
  WP.aload_n (pc2 := 54) (i := 0) rfl (by decide +kernel) rfl <|
  WP.iload_n (pc2 := 55) (i := 2) rfl (by decide +kernel) rfl <|
  WP.iload_n (pc2 := 56) (i := 3) rfl (by decide +kernel) rfl <|
  WP.callV (y := mX12_waitFor) (index := 263) (pc2 := 59) (y' := mX12_isOver) (vs := [.inl a2, .inl a3]) rfl (by decide +kernel) okX12_isOver ⟨by decide, by decide⟩ ⟨lm_X12_263, ivX12_isOver⟩ zSh_37 zc_12 (Nat.le_of_ble_eq_true rfl) ⟨rfl, rfl⟩ rfl (WP.c0i f17 (fun x4 _ f14 =>
  WP.if_eq (pc2 := 62) (off := 6) (tgt := 65) rfl (by decide +kernel) (by decide) (fun h11 => have f12 := f14.1 h11
  WP.aload_n (pc2 := 66) (i := 0) rfl (by decide +kernel) rfl <|
  WP.dup (pc2 := 67) rfl (by decide +kernel) <|
  WP.getI (pc2 := 70) rfl (by decide +kernel) zc_12 zSh_37 (by decide) rfl lf_X12_254 rfl rfl <|
  WP.iconst (pc2 := 71) (x := 1) rfl (by decide +kernel) (by decide) <|
  WP.iadd (pc2 := 72) rfl (by decide +kernel) f12.1 <|
  WP.putI (pc2 := 75) rfl (by decide +kernel) zc_12 zSh_37 (by decide) rfl lf_X12_254 rfl (z_int _) rfl <|
  WP.aload_n (pc2 := 76) (i := 0) rfl (by decide +kernel) rfl <|
  WP.getI (pc2 := 79) rfl (by decide +kernel) zc_12 zSh_37 (by decide) rfl lf_X12_257 rfl (zup_f _ _ _ _ _ _ (by decide)) <|
  WP.iconst (pc2 := 80) (x := -1) rfl (by decide +kernel) (by decide) <|
  WP.icmp_eq (pc2 := 83) (off := 39) (tgt := 119) rfl (by decide +kernel) (by decide) (fun h8 => have f9 := f12.2.1 h8
  WP.aload_n (pc2 := 120) (i := 0) rfl (by decide +kernel) rfl <|
  WP.iload_n (pc2 := 121) (i := 2) rfl (by decide +kernel) rfl <|
  WP.putI (pc2 := 124) rfl (by decide +kernel) zc_12 zSh_37 (by decide) rfl lf_X12_257 rfl (z_int _) rfl <|
  WP.aload_n (pc2 := 125) (i := 0) rfl (by decide +kernel) rfl <|
  WP.iload_n (pc2 := 126) (i := 3) rfl (by decide +kernel) rfl <|
  WP.putI (pc2 := 129) rfl (by decide +kernel) zc_12 zSh_37 (by decide) rfl lf_X12_260 rfl (z_int _) rfl <|
  WP.iinc (pc2 := 132) (i := 3) (d := 1) rfl (by decide +kernel) rfl f9.1 <|
  WP.goto (off := -105) (tgt := 27) (by decide +kernel) (by decide) <|
  f9.2) (fun h8 => have f10 := f12.2.2 h8
  WP.aload_n (pc2 := 84) (i := 0) rfl (by decide +kernel) rfl <|
  WP.getR (pc2 := 87) rfl (by decide +kernel) zc_12 zSh_37 (by decide) rfl lf_X12_73 rfl (rs_37_32 hM) <|
  WP.sipush (pc2 := 90) (x := 301) rfl (by decide +kernel) ⟨by decide +kernel, by decide⟩ <|
  WP.aload_n (pc2 := 91) (i := 0) rfl (by decide +kernel) rfl <|
  WP.getI (pc2 := 94) rfl (by decide +kernel) zc_12 zSh_37 (by decide) rfl lf_X12_257 rfl (zup_f _ _ _ _ _ _ (by decide)) <|
  WP.imul (pc2 := 95) rfl (by decide +kernel) f10.1 <|
  WP.aload_n (pc2 := 96) (i := 0) rfl (by decide +kernel) rfl <|
  WP.getI (pc2 := 99) rfl (by decide +kernel) zc_12 zSh_37 (by decide) rfl lf_X12_260 rfl (zup_f _ _ _ _ _ _ (by decide)) <|
  WP.iadd (pc2 := 100) rfl (by decide +kernel) f10.2.1 <|
  WP.iaload (pc2 := 101) rfl (by decide +kernel) zSh_56 rfl f10.2.2.1 (zup_k _ _ _ _ _ _ (by decide)) <|
  WP.aload_n (pc2 := 102) (i := 0) rfl (by decide +kernel) rfl <|
  WP.getR (pc2 := 105) rfl (by decide +kernel) zc_12 zSh_37 (by decide) rfl lf_X12_73 rfl (rs_37_32 hM) <|
  WP.sipush (pc2 := 108) (x := 301) rfl (by decide +kernel) ⟨by decide +kernel, by decide⟩ <|
  WP.iload_n (pc2 := 109) (i := 2) rfl (by decide +kernel) rfl <|
  WP.imul (pc2 := 110) rfl (by decide +kernel) f10.2.2.2.1 <|
  WP.iload_n (pc2 := 111) (i := 3) rfl (by decide +kernel) rfl <|
  WP.iadd (pc2 := 112) rfl (by decide +kernel) f10.2.2.2.2.1 <|
  WP.iaload (pc2 := 113) rfl (by decide +kernel) zSh_56 rfl f10.2.2.2.2.2.1 (zup_k _ _ _ _ _ _ (by decide)) <|
  WP.icmp_gt (pc2 := 116) (off := 6) (tgt := 119) rfl (by decide +kernel) (by decide) (fun h5 => have f6 := f10.2.2.2.2.2.2.1 h5
  WP.aload_n (pc2 := 120) (i := 0) rfl (by decide +kernel) rfl <|
  WP.iload_n (pc2 := 121) (i := 2) rfl (by decide +kernel) rfl <|
  WP.putI (pc2 := 124) rfl (by decide +kernel) zc_12 zSh_37 (by decide) rfl lf_X12_257 rfl (z_int _) rfl <|
  WP.aload_n (pc2 := 125) (i := 0) rfl (by decide +kernel) rfl <|
  WP.iload_n (pc2 := 126) (i := 3) rfl (by decide +kernel) rfl <|
  WP.putI (pc2 := 129) rfl (by decide +kernel) zc_12 zSh_37 (by decide) rfl lf_X12_260 rfl (z_int _) rfl <|
  WP.iinc (pc2 := 132) (i := 3) (d := 1) rfl (by decide +kernel) rfl f6.1 <|
  WP.goto (off := -105) (tgt := 27) (by decide +kernel) (by decide) <|
  f6.2) (fun h5 => have f7 := f10.2.2.2.2.2.2.2 h5
  WP.goto (off := 13) (tgt := 129) (by decide +kernel) (by decide) <|
  WP.iinc (pc2 := 132) (i := 3) (d := 1) rfl (by decide +kernel) rfl f7.1 <|
  WP.goto (off := -105) (tgt := 27) (by decide +kernel) (by decide) <|
  f7.2))) (fun h11 => have f13 := f14.2 h11
  WP.goto (off := 67) (tgt := 129) (by decide +kernel) (by decide) <|
  WP.iinc (pc2 := 132) (i := 3) (d := 1) rfl (by decide +kernel) rfl f13.1 <|
  WP.goto (off := -105) (tgt := 27) (by decide +kernel) (by decide) <|
  f13.2)))))

set_option maxRecDepth 100000 in
set_option maxHeartbeats 4000000 in
theorem GX12_waitFor_17 {hi : zI} {hr : zR} {P : zI → Prop} (l1 : Int) (a2 : Int) (u3 : Option zV) 
    (F : (hi 37 0 10 ≤ a2 → P hi) ∧ (a2 < hi 37 0 10 → (WP mX12_waitFor 27 [some (.inr (some (37, 0))), some (.inl l1), some (.inl a2), some (.inl 1)] [] hi hr (zQ1v hr P)))) :
    WP mX12_waitFor 17 [some (.inr (some (37, 0))), some (.inl l1), some (.inl a2), u3] [] hi hr (zQ1v hr P) :=
  WP.iload_n (pc2 := 18) (i := 2) rfl (by decide +kernel) rfl <|
  WP.aload_n (pc2 := 19) (i := 0) rfl (by decide +kernel) rfl <|
  WP.getI (pc2 := 22) rfl (by decide +kernel) zc_12 zSh_37 (by decide) rfl lf_X12_195 rfl rfl <|
  WP.icmp_ge (pc2 := 25) (off := 119) (tgt := 141) rfl (by decide +kernel) (by decide) (fun h21 => have f22 := F.1 h21
  WP.vret (by decide +kernel) rfl ⟨rfl, rfl, f22⟩) (fun h21 => have f23 := F.2 h21
  WP.iconst (pc2 := 26) (x := 1) rfl (by decide +kernel) (by decide) <|
  WP.istore_n (pc2 := 27) (i := 3) rfl (by decide +kernel) (by decide) <|
  f23)
set_option maxRecDepth 100000 in
set_option maxHeartbeats 4000000 in
theorem GX12_baseActs {hi : zI} {hr : zR} {P : Int → zI → Prop}  
    (F : WP mX12_baseActs 4 [some (.inr (some (37, 0))), some (.inl 0), some (.inl 0), none] [] hi hr (zQ1i hr P)) :
    W1i mX12_baseActs [.inr (some (37, 0))] hi hr P :=
  WPm.of rfl (show WP mX12_baseActs 0 [some (.inr (some (37, 0))), none, none, none] [] hi hr (zQ1i hr P) from
  WP.iconst (pc2 := 1) (x := 0) rfl (by decide +kernel) (by decide) <|
  WP.istore_n (pc2 := 2) (i := 1) rfl (by decide +kernel) (by decide) <|
  WP.iconst (pc2 := 3) (x := 0) rfl (by decide +kernel) (by decide) <|
  WP.istore_n (pc2 := 4) (i := 2) rfl (by decide +kernel) (by decide) <|
  F)

set_option maxRecDepth 100000 in
set_option maxHeartbeats 4000000 in
theorem GX12_baseActs_4 {hi : zI} {hr : zR} {P : Int → zI → Prop} (hM : RSm hr) (a1 : Int) (a2 : Int) 
    (F : (hi 37 0 10 ≤ a2 → (WP mX12_baseActs 88 [some (.inr (some (37, 0))), some (.inl a1), some (.inl 1), none] [] hi hr (zQ1i hr P))) ∧ (a2 < hi 37 0 10 → ((0 ≤ a2 ∧ a2 < 6) ∧ ((hi 74 0 a2 ≠ 0 → ((zInR (a2 + 1)) ∧ (WP mX12_baseActs 4 [some (.inr (some (37, 0))), some (.inl a1), some (.inl (a2 + 1)), none] [] hi hr (zQ1i hr P)))) ∧ (hi 74 0 a2 = 0 → (W0i mX12_known [.inr (some (37, 0)), .inl a2] hi hr (fun (x1 : Int) => (0 ≤ a2 ∧ a2 < 6) ∧ ((hi 54 0 a2 ≤ x1 → ((0 ≤ a2 ∧ a2 < 6) ∧ ((0 ≤ a2 ∧ a2 < 6) ∧ ((0 ≤ hi 78 0 a2 ∧ hi 78 0 a2 < 60) ∧ ((0 ≤ a2 ∧ a2 < 6) ∧ ((zInR ((hi 37 0 21) + 1)) ∧ ((zInR (a1 + 1)) ∧ ((zInR (a2 + 1)) ∧ (WP mX12_baseActs 4 [some (.inr (some (37, 0))), some (.inl (a1 + 1)), some (.inl (a2 + 1)), none] [] (zup (zup (zup (zup hi 74 0 a2 1) 50 0 (hi 78 0 a2) (hi 37 0 61)) 78 0 a2 (-1)) 37 0 21 ((hi 37 0 21) + 1)) hr (zQ1i hr P)))))))))) ∧ (x1 < hi 54 0 a2 → ((zInR (a2 + 1)) ∧ (WP mX12_baseActs 4 [some (.inr (some (37, 0))), some (.inl a1), some (.inl (a2 + 1)), none] [] hi hr (zQ1i hr P)))))))))))) :
    WP mX12_baseActs 4 [some (.inr (some (37, 0))), some (.inl a1), some (.inl a2), none] [] hi hr (zQ1i hr P) :=
  WP.iload_n (pc2 := 5) (i := 2) rfl (by decide +kernel) rfl <|
  WP.aload_n (pc2 := 6) (i := 0) rfl (by decide +kernel) rfl <|
  WP.getI (pc2 := 9) rfl (by decide +kernel) zc_12 zSh_37 (by decide) rfl lf_X12_195 rfl rfl <|
  WP.icmp_ge (pc2 := 12) (off := 77) (tgt := 86) rfl (by decide +kernel) (by decide) (fun h9 => have f10 := F.1 h9
  WP.iconst (pc2 := 87) (x := 1) rfl (by decide +kernel) (by decide) <|
  WP.istore_n (pc2 := 88) (i := 2) rfl (by decide +kernel) (by decide) <|
  f10) (fun h9 => have f11 := F.2 h9
  WP.aload_n (pc2 := 13) (i := 0) rfl (by decide +kernel) rfl <|
  WP.getR (pc2 := 16) rfl (by decide +kernel) zc_12 zSh_37 (by decide) rfl lf_X12_128 rfl (rs_37_54 hM) <|
  WP.iload_n (pc2 := 17) (i := 2) rfl (by decide +kernel) rfl <|
  WP.baload (pc2 := 18) rfl (by decide +kernel) zSh_74 (by decide) rfl f11.1 rfl <|
  WP.if_ne (pc2 := 21) (off := 62) (tgt := 80) rfl (by decide +kernel) (by decide) (fun h6 => have f7 := f11.2.1 h6
  WP.iinc (pc2 := 83) (i := 2) (d := 1) rfl (by decide +kernel) rfl f7.1 <|
  WP.goto (off := -79) (tgt := 4) (by decide +kernel) (by decide) <|
  f7.2) (fun h6 => have f8 := f11.2.2 h6
  WP.aload_n (pc2 := 22) (i := 0) rfl (by decide +kernel) rfl <|
  WP.iload_n (pc2 := 23) (i := 2) rfl (by decide +kernel) rfl <|
  WP.callV (y := mX12_baseActs) (index := 251) (pc2 := 26) (y' := mX12_known) (vs := [.inl a2]) rfl (by decide +kernel) okX12_known ⟨by decide, by decide⟩ ⟨lm_X12_251, ivX12_known⟩ zSh_37 zc_12 (Nat.le_of_ble_eq_true rfl) ⟨rfl, rfl⟩ rfl (WP.c0i f8 (fun x1 _ f5 =>
  WP.aload_n (pc2 := 27) (i := 0) rfl (by decide +kernel) rfl <|
  WP.getR (pc2 := 30) rfl (by decide +kernel) zc_12 zSh_37 (by decide) rfl lf_X12_67 rfl (rs_37_30 hM) <|
  WP.iload_n (pc2 := 31) (i := 2) rfl (by decide +kernel) rfl <|
  WP.iaload (pc2 := 32) rfl (by decide +kernel) zSh_54 rfl f5.1 rfl <|
  WP.icmp_ge (pc2 := 35) (off := 6) (tgt := 38) rfl (by decide +kernel) (by decide) (fun h2 => have f3 := f5.2.1 h2
  WP.aload_n (pc2 := 39) (i := 0) rfl (by decide +kernel) rfl <|
  WP.getR (pc2 := 42) rfl (by decide +kernel) zc_12 zSh_37 (by decide) rfl lf_X12_128 rfl (rs_37_54 hM) <|
  WP.iload_n (pc2 := 43) (i := 2) rfl (by decide +kernel) rfl <|
  WP.iconst (pc2 := 44) (x := 1) rfl (by decide +kernel) (by decide) <|
  WP.bastore (pc2 := 45) rfl (by decide +kernel) zSh_74 (Or.inr ⟨rfl, by decide, by decide⟩) rfl f3.1 <|
  WP.aload_n (pc2 := 46) (i := 0) rfl (by decide +kernel) rfl <|
  WP.getR (pc2 := 49) rfl (by decide +kernel) zc_12 zSh_37 (by decide) rfl lf_X12_55 rfl (rs_37_26 hM) <|
  WP.aload_n (pc2 := 50) (i := 0) rfl (by decide +kernel) rfl <|
  WP.getR (pc2 := 53) rfl (by decide +kernel) zc_12 zSh_37 (by decide) rfl lf_X12_140 rfl (rs_37_58 hM) <|
  WP.iload_n (pc2 := 54) (i := 2) rfl (by decide +kernel) rfl <|
  WP.iaload (pc2 := 55) rfl (by decide +kernel) zSh_78 rfl f3.2.1 (zup_k _ _ _ _ _ _ (by decide)) <|
  WP.aload_n (pc2 := 56) (i := 0) rfl (by decide +kernel) rfl <|
  WP.getI (pc2 := 59) rfl (by decide +kernel) zc_12 zSh_37 (by decide) rfl lf_X12_207 rfl (zup_k _ _ _ _ _ _ (by decide)) <|
  WP.iastore (pc2 := 60) rfl (by decide +kernel) zSh_50 rfl f3.2.2.1 <|
  WP.aload_n (pc2 := 61) (i := 0) rfl (by decide +kernel) rfl <|
  WP.getR (pc2 := 64) rfl (by decide +kernel) zc_12 zSh_37 (by decide) rfl lf_X12_140 rfl (rs_37_58 hM) <|
  WP.iload_n (pc2 := 65) (i := 2) rfl (by decide +kernel) rfl <|
  WP.iconst (pc2 := 66) (x := -1) rfl (by decide +kernel) (by decide) <|
  WP.iastore (pc2 := 67) rfl (by decide +kernel) zSh_78 rfl f3.2.2.2.1 <|
  WP.aload_n (pc2 := 68) (i := 0) rfl (by decide +kernel) rfl <|
  WP.dup (pc2 := 69) rfl (by decide +kernel) <|
  WP.getI (pc2 := 72) rfl (by decide +kernel) zc_12 zSh_37 (by decide) rfl lf_X12_204 rfl ((zup_k _ _ _ _ _ _ (by decide)).trans ((zup_k _ _ _ _ _ _ (by decide)).trans (zup_k _ _ _ _ _ _ (by decide)))) <|
  WP.iconst (pc2 := 73) (x := 1) rfl (by decide +kernel) (by decide) <|
  WP.iadd (pc2 := 74) rfl (by decide +kernel) f3.2.2.2.2.1 <|
  WP.putI (pc2 := 77) rfl (by decide +kernel) zc_12 zSh_37 (by decide) rfl lf_X12_204 rfl (z_int _) rfl <|
  WP.iinc (pc2 := 80) (i := 1) (d := 1) rfl (by decide +kernel) rfl f3.2.2.2.2.2.1 <|
  WP.iinc (pc2 := 83) (i := 2) (d := 1) rfl (by decide +kernel) rfl f3.2.2.2.2.2.2.1 <|
  WP.goto (off := -79) (tgt := 4) (by decide +kernel) (by decide) <|
  f3.2.2.2.2.2.2.2) (fun h2 => have f4 := f5.2.2 h2
  WP.goto (off := 45) (tgt := 80) (by decide +kernel) (by decide) <|
  WP.iinc (pc2 := 83) (i := 2) (d := 1) rfl (by decide +kernel) rfl f4.1 <|
  WP.goto (off := -79) (tgt := 4) (by decide +kernel) (by decide) <|
  f4.2)))))

set_option maxRecDepth 100000 in
set_option maxHeartbeats 4000000 in
theorem GX12_baseActs_261 {hi : zI} {hr : zR} {P : Int → zI → Prop} (a1 : Int) (a2 : Int) (a3 : Int) 
    (F : (hi 37 0 10 ≤ a3 → P a1 hi) ∧ (a3 < hi 37 0 10 → (W1v mX12_grants [.inr (some (37, 0)), .inl a3] hi hr (fun (hi18 : zI) => (zInR (a3 + 1)) ∧ (WP mX12_baseActs 261 [some (.inr (some (37, 0))), some (.inl a1), some (.inl a2), some (.inl (a3 + 1))] [] hi18 hr (zQ1i hr P)))))) :
    WP mX12_baseActs 261 [some (.inr (some (37, 0))), some (.inl a1), some (.inl a2), some (.inl a3)] [] hi hr (zQ1i hr P) :=
  WP.iload_n (pc2 := 262) (i := 3) rfl (by decide +kernel) rfl <|
  WP.aload_n (pc2 := 263) (i := 0) rfl (by decide +kernel) rfl <|
  WP.getI (pc2 := 266) rfl (by decide +kernel) zc_12 zSh_37 (by decide) rfl lf_X12_195 rfl rfl <|
  WP.icmp_ge (pc2 := 269) (off := 14) (tgt := 280) rfl (by decide +kernel) (by decide) (fun h20 => have f21 := F.1 h20
  WP.iload_n (pc2 := 281) (i := 1) rfl (by decide +kernel) rfl <|
  WP.iret (by decide +kernel) rfl (fun hx => ⟨_, rfl, hx, rfl, f21⟩)) (fun h20 => have f22 := F.2 h20
  WP.aload_n (pc2 := 270) (i := 0) rfl (by decide +kernel) rfl <|
  WP.iload_n (pc2 := 271) (i := 3) rfl (by decide +kernel) rfl <|
  WP.callV (y := mX12_baseActs) (index := 270) (pc2 := 274) (y' := mX12_grants) (vs := [.inl a3]) rfl (by decide +kernel) okX12_grants ⟨by decide, by decide⟩ ⟨lm_X12_270, ivX12_grants⟩ zSh_37 zc_12 (Nat.le_of_ble_eq_true rfl) ⟨rfl, rfl⟩ rfl (WP.c1v f22 (fun hi18 f19 =>
  WP.iinc (pc2 := 277) (i := 3) (d := 1) rfl (by decide +kernel) rfl f19.1 <|
  WP.goto (off := -16) (tgt := 261) (by decide +kernel) (by decide) <|
  f19.2)))

set_option maxRecDepth 100000 in
set_option maxHeartbeats 4000000 in
theorem GX12_baseActs_105 {hi : zI} {hr : zR} {P : Int → zI → Prop} (hM : RSm hr) (a1 : Int) (a2 : Int) (a3 : Int) 
    (F : (hi 37 0 10 ≤ a3 → ((hi 37 0 10 ≤ a3 → (WP mX12_baseActs 88 [some (.inr (some (37, 0))), some (.inl a1), some (.inl 0), some (.inl a3)] [] hi hr (zQ1i hr P))) ∧ (a3 < hi 37 0 10 → ((0 ≤ hi 37 0 20 ∧ hi 37 0 20 < 60) ∧ ((0 ≤ hi 46 0 (hi 37 0 20) ∧ hi 46 0 (hi 37 0 20) < 256) ∧ ((0 ≤ hi 37 0 20 ∧ hi 37 0 20 < 60) ∧ ((0 ≤ hi 47 0 (hi 37 0 20) ∧ hi 47 0 (hi 37 0 20) < 256) ∧ (W1i mX12_finds [.inr (some (37, 0)), .inl a3, .inl (hi 41 0 (hi 46 0 (hi 37 0 20))), .inl (hi 41 0 (hi 47 0 (hi 37 0 20))), .inl (hi 37 0 61)] hi hr (fun (x23 : Int) (hi24 : zI) => (x23 = 0 → (WP mX12_baseActs 88 [some (.inr (some (37, 0))), some (.inl a1), some (.inl 0), some (.inl a3)] [] hi24 hr (zQ1i hr P))) ∧ (x23 ≠ 0 → ((0 ≤ a3 ∧ a3 < 6) ∧ ((0 ≤ a3 ∧ a3 < 6) ∧ ((zInR ((hi24 77 0 a3) + 1)) ∧ ((0 ≤ a3 ∧ a3 < 6) ∧ ((0 ≤ a3 ∧ a3 < 6) ∧ ((0 ≤ a3 ∧ a3 < 6) ∧ ((0 ≤ hi24 37 0 20 ∧ hi24 37 0 20 < 60) ∧ ((0 ≤ hi24 37 0 20 ∧ hi24 37 0 20 < 60) ∧ ((zInR ((hi24 37 0 20) + 1)) ∧ (WP mX12_baseActs 88 [some (.inr (some (37, 0))), some (.inl a1), some (.inl 1), some (.inl a3)] [] (zup (zup (zup (zup (zup (zup (zup hi24 74 0 a3 0) 77 0 a3 ((hi24 77 0 a3) + 1)) 78 0 a3 (hi24 37 0 20)) 79 0 a3 0) 48 0 (hi24 37 0 20) a3) 49 0 (hi24 37 0 20) (hi24 37 0 61)) 37 0 20 ((hi24 37 0 20) + 1)) hr (zQ1i hr P))))))))))))))))))))) ∧ (a3 < hi 37 0 10 → ((0 ≤ a3 ∧ a3 < 6) ∧ ((hi 74 0 a3 ≠ 0 → ((hi 37 0 10 ≤ a3 → (WP mX12_baseActs 88 [some (.inr (some (37, 0))), some (.inl a1), some (.inl 0), some (.inl a3)] [] hi hr (zQ1i hr P))) ∧ (a3 < hi 37 0 10 → ((0 ≤ hi 37 0 20 ∧ hi 37 0 20 < 60) ∧ ((0 ≤ hi 46 0 (hi 37 0 20) ∧ hi 46 0 (hi 37 0 20) < 256) ∧ ((0 ≤ hi 37 0 20 ∧ hi 37 0 20 < 60) ∧ ((0 ≤ hi 47 0 (hi 37 0 20) ∧ hi 47 0 (hi 37 0 20) < 256) ∧ (W1i mX12_finds [.inr (some (37, 0)), .inl a3, .inl (hi 41 0 (hi 46 0 (hi 37 0 20))), .inl (hi 41 0 (hi 47 0 (hi 37 0 20))), .inl (hi 37 0 61)] hi hr (fun (x32 : Int) (hi33 : zI) => (x32 = 0 → (WP mX12_baseActs 88 [some (.inr (some (37, 0))), some (.inl a1), some (.inl 0), some (.inl a3)] [] hi33 hr (zQ1i hr P))) ∧ (x32 ≠ 0 → ((0 ≤ a3 ∧ a3 < 6) ∧ ((0 ≤ a3 ∧ a3 < 6) ∧ ((zInR ((hi33 77 0 a3) + 1)) ∧ ((0 ≤ a3 ∧ a3 < 6) ∧ ((0 ≤ a3 ∧ a3 < 6) ∧ ((0 ≤ a3 ∧ a3 < 6) ∧ ((0 ≤ hi33 37 0 20 ∧ hi33 37 0 20 < 60) ∧ ((0 ≤ hi33 37 0 20 ∧ hi33 37 0 20 < 60) ∧ ((zInR ((hi33 37 0 20) + 1)) ∧ (WP mX12_baseActs 88 [some (.inr (some (37, 0))), some (.inl a1), some (.inl 1), some (.inl a3)] [] (zup (zup (zup (zup (zup (zup (zup hi33 74 0 a3 0) 77 0 a3 ((hi33 77 0 a3) + 1)) 78 0 a3 (hi33 37 0 20)) 79 0 a3 0) 48 0 (hi33 37 0 20) a3) 49 0 (hi33 37 0 20) (hi33 37 0 61)) 37 0 20 ((hi33 37 0 20) + 1)) hr (zQ1i hr P))))))))))))))))))))) ∧ (hi 74 0 a3 = 0 → ((zInR (a3 + 1)) ∧ (WP mX12_baseActs 105 [some (.inr (some (37, 0))), some (.inl a1), some (.inl a2), some (.inl (a3 + 1))] [] hi hr (zQ1i hr P)))))))) :
    WP mX12_baseActs 105 [some (.inr (some (37, 0))), some (.inl a1), some (.inl a2), some (.inl a3)] [] hi hr (zQ1i hr P) :=
  WP.iload_n (pc2 := 106) (i := 3) rfl (by decide +kernel) rfl <|
  WP.aload_n (pc2 := 107) (i := 0) rfl (by decide +kernel) rfl <|
  WP.getI (pc2 := 110) rfl (by decide +kernel) zc_12 zSh_37 (by decide) rfl lf_X12_195 rfl rfl <|
  WP.icmp_ge (pc2 := 113) (off := 18) (tgt := 128) rfl (by decide +kernel) (by decide) (fun h44 => have f45 := F.1 h44
  WP.iload_n (pc2 := 129) (i := 3) rfl (by decide +kernel) rfl <|
  WP.aload_n (pc2 := 130) (i := 0) rfl (by decide +kernel) rfl <|
  WP.getI (pc2 := 133) rfl (by decide +kernel) zc_12 zSh_37 (by decide) rfl lf_X12_195 rfl rfl <|
  WP.icmp_ge (pc2 := 136) (off := 47) (tgt := 180) rfl (by decide +kernel) (by decide) (fun h29 => have f30 := f45.1 h29
  WP.iconst (pc2 := 181) (x := 0) rfl (by decide +kernel) (by decide) <|
  WP.istore_n (pc2 := 182) (i := 2) rfl (by decide +kernel) (by decide) <|
  WP.iload_n (pc2 := 183) (i := 2) rfl (by decide +kernel) rfl <|
  WP.if_ne (pc2 := 186) (off := 6) (tgt := 189) rfl (by decide +kernel) (by decide) (fun h => absurd h (by decide)) (fun _ =>
  WP.goto (off := -98) (tgt := 88) (by decide +kernel) (by decide) <|
  f30)) (fun h29 => have f31 := f45.2 h29
  WP.aload_n (pc2 := 137) (i := 0) rfl (by decide +kernel) rfl <|
  WP.iload_n (pc2 := 138) (i := 3) rfl (by decide +kernel) rfl <|
  WP.aload_n (pc2 := 139) (i := 0) rfl (by decide +kernel) rfl <|
  WP.getR (pc2 := 142) rfl (by decide +kernel) zc_12 zSh_37 (by decide) rfl lf_X12_27 rfl (rs_37_11 hM) <|
  WP.aload_n (pc2 := 143) (i := 0) rfl (by decide +kernel) rfl <|
  WP.getR (pc2 := 146) rfl (by decide +kernel) zc_12 zSh_37 (by decide) rfl lf_X12_43 rfl (rs_37_22 hM) <|
  WP.aload_n (pc2 := 147) (i := 0) rfl (by decide +kernel) rfl <|
  WP.getI (pc2 := 150) rfl (by decide +kernel) zc_12 zSh_37 (by decide) rfl lf_X12_201 rfl rfl <|
  WP.iaload (pc2 := 151) rfl (by decide +kernel) zSh_46 rfl f31.1 rfl <|
  WP.iaload (pc2 := 152) rfl (by decide +kernel) zSh_41 rfl f31.2.1 rfl <|
  WP.aload_n (pc2 := 153) (i := 0) rfl (by decide +kernel) rfl <|
  WP.getR (pc2 := 156) rfl (by decide +kernel) zc_12 zSh_37 (by decide) rfl lf_X12_27 rfl (rs_37_11 hM) <|
  WP.aload_n (pc2 := 157) (i := 0) rfl (by decide +kernel) rfl <|
  WP.getR (pc2 := 160) rfl (by decide +kernel) zc_12 zSh_37 (by decide) rfl lf_X12_46 rfl (rs_37_23 hM) <|
  WP.aload_n (pc2 := 161) (i := 0) rfl (by decide +kernel) rfl <|
  WP.getI (pc2 := 164) rfl (by decide +kernel) zc_12 zSh_37 (by decide) rfl lf_X12_201 rfl rfl <|
  WP.iaload (pc2 := 165) rfl (by decide +kernel) zSh_47 rfl f31.2.2.1 rfl <|
  WP.iaload (pc2 := 166) rfl (by decide +kernel) zSh_41 rfl f31.2.2.2.1 rfl <|
  WP.aload_n (pc2 := 167) (i := 0) rfl (by decide +kernel) rfl <|
  WP.getI (pc2 := 170) rfl (by decide +kernel) zc_12 zSh_37 (by decide) rfl lf_X12_207 rfl rfl <|
  WP.callV (y := mX12_baseActs) (index := 267) (pc2 := 173) (y' := mX12_finds) (vs := [.inl a3, .inl (hi 41 0 (hi 46 0 (hi 37 0 20))), .inl (hi 41 0 (hi 47 0 (hi 37 0 20))), .inl (hi 37 0 61)]) rfl (by decide +kernel) okX12_finds ⟨by decide, by decide⟩ ⟨lm_X12_267, ivX12_finds⟩ zSh_37 zc_12 (Nat.le_of_ble_eq_true rfl) ⟨rfl, rfl⟩ rfl (WP.c1i f31.2.2.2.2 (fun x23 hi24 _ f28 =>
  WP.if_eq (pc2 := 176) (off := 7) (tgt := 180) rfl (by decide +kernel) (by decide) (fun h25 => have f26 := f28.1 h25
  WP.iconst (pc2 := 181) (x := 0) rfl (by decide +kernel) (by decide) <|
  WP.istore_n (pc2 := 182) (i := 2) rfl (by decide +kernel) (by decide) <|
  WP.iload_n (pc2 := 183) (i := 2) rfl (by decide +kernel) rfl <|
  WP.if_ne (pc2 := 186) (off := 6) (tgt := 189) rfl (by decide +kernel) (by decide) (fun h => absurd h (by decide)) (fun _ =>
  WP.goto (off := -98) (tgt := 88) (by decide +kernel) (by decide) <|
  f26)) (fun h25 => have f27 := f28.2 h25
  WP.iconst (pc2 := 177) (x := 1) rfl (by decide +kernel) (by decide) <|
  WP.goto (off := 4) (tgt := 181) (by decide +kernel) (by decide) <|
  WP.istore_n (pc2 := 182) (i := 2) rfl (by decide +kernel) (by decide) <|
  WP.iload_n (pc2 := 183) (i := 2) rfl (by decide +kernel) rfl <|
  WP.if_ne (pc2 := 186) (off := 6) (tgt := 189) rfl (by decide +kernel) (by decide) (fun _ =>
  WP.aload_n (pc2 := 190) (i := 0) rfl (by decide +kernel) rfl <|
  WP.getR (pc2 := 193) rfl (by decide +kernel) zc_12 zSh_37 (by decide) rfl lf_X12_128 rfl (rs_37_54 hM) <|
  WP.iload_n (pc2 := 194) (i := 3) rfl (by decide +kernel) rfl <|
  WP.iconst (pc2 := 195) (x := 0) rfl (by decide +kernel) (by decide) <|
  WP.bastore (pc2 := 196) rfl (by decide +kernel) zSh_74 (Or.inr ⟨rfl, by decide, by decide⟩) rfl f27.1 <|
  WP.aload_n (pc2 := 197) (i := 0) rfl (by decide +kernel) rfl <|
  WP.getR (pc2 := 200) rfl (by decide +kernel) zc_12 zSh_37 (by decide) rfl lf_X12_137 rfl (rs_37_57 hM) <|
  WP.iload_n (pc2 := 201) (i := 3) rfl (by decide +kernel) rfl <|
  WP.dup2 (pc2 := 202) rfl (by decide +kernel) <|
  WP.iaload (pc2 := 203) rfl (by decide +kernel) zSh_77 rfl f27.2.1 (zup_k _ _ _ _ _ _ (by decide)) <|
  WP.iconst (pc2 := 204) (x := 1) rfl (by decide +kernel) (by decide) <|
  WP.iadd (pc2 := 205) rfl (by decide +kernel) f27.2.2.1 <|
  WP.iastore (pc2 := 206) rfl (by decide +kernel) zSh_77 rfl f27.2.2.2.1 <|
  WP.aload_n (pc2 := 207) (i := 0) rfl (by decide +kernel) rfl <|
  WP.getR (pc2 := 210) rfl (by decide +kernel) zc_12 zSh_37 (by decide) rfl lf_X12_140 rfl (rs_37_58 hM) <|
  WP.iload_n (pc2 := 211) (i := 3) rfl (by decide +kernel) rfl <|
  WP.aload_n (pc2 := 212) (i := 0) rfl (by decide +kernel) rfl <|
  WP.getI (pc2 := 215) rfl (by decide +kernel) zc_12 zSh_37 (by decide) rfl lf_X12_201 rfl ((zup_k _ _ _ _ _ _ (by decide)).trans (zup_k _ _ _ _ _ _ (by decide))) <|
  WP.iastore (pc2 := 216) rfl (by decide +kernel) zSh_78 rfl f27.2.2.2.2.1 <|
  WP.aload_n (pc2 := 217) (i := 0) rfl (by decide +kernel) rfl <|
  WP.getR (pc2 := 220) rfl (by decide +kernel) zc_12 zSh_37 (by decide) rfl lf_X12_143 rfl (rs_37_59 hM) <|
  WP.iload_n (pc2 := 221) (i := 3) rfl (by decide +kernel) rfl <|
  WP.iconst (pc2 := 222) (x := 0) rfl (by decide +kernel) (by decide) <|
  WP.iastore (pc2 := 223) rfl (by decide +kernel) zSh_79 rfl f27.2.2.2.2.2.1 <|
  WP.aload_n (pc2 := 224) (i := 0) rfl (by decide +kernel) rfl <|
  WP.getR (pc2 := 227) rfl (by decide +kernel) zc_12 zSh_37 (by decide) rfl lf_X12_49 rfl (rs_37_24 hM) <|
  WP.aload_n (pc2 := 228) (i := 0) rfl (by decide +kernel) rfl <|
  WP.getI (pc2 := 231) rfl (by decide +kernel) zc_12 zSh_37 (by decide) rfl lf_X12_201 rfl ((zup_k _ _ _ _ _ _ (by decide)).trans ((zup_k _ _ _ _ _ _ (by decide)).trans ((zup_k _ _ _ _ _ _ (by decide)).trans (zup_k _ _ _ _ _ _ (by decide))))) <|
  WP.iload_n (pc2 := 232) (i := 3) rfl (by decide +kernel) rfl <|
  WP.iastore (pc2 := 233) rfl (by decide +kernel) zSh_48 rfl f27.2.2.2.2.2.2.1 <|
  WP.aload_n (pc2 := 234) (i := 0) rfl (by decide +kernel) rfl <|
  WP.getR (pc2 := 237) rfl (by decide +kernel) zc_12 zSh_37 (by decide) rfl lf_X12_52 rfl (rs_37_25 hM) <|
  WP.aload_n (pc2 := 238) (i := 0) rfl (by decide +kernel) rfl <|
  WP.getI (pc2 := 241) rfl (by decide +kernel) zc_12 zSh_37 (by decide) rfl lf_X12_201 rfl ((zup_k _ _ _ _ _ _ (by decide)).trans ((zup_k _ _ _ _ _ _ (by decide)).trans ((zup_k _ _ _ _ _ _ (by decide)).trans ((zup_k _ _ _ _ _ _ (by decide)).trans (zup_k _ _ _ _ _ _ (by decide)))))) <|
  WP.aload_n (pc2 := 242) (i := 0) rfl (by decide +kernel) rfl <|
  WP.getI (pc2 := 245) rfl (by decide +kernel) zc_12 zSh_37 (by decide) rfl lf_X12_207 rfl ((zup_k _ _ _ _ _ _ (by decide)).trans ((zup_k _ _ _ _ _ _ (by decide)).trans ((zup_k _ _ _ _ _ _ (by decide)).trans ((zup_k _ _ _ _ _ _ (by decide)).trans (zup_k _ _ _ _ _ _ (by decide)))))) <|
  WP.iastore (pc2 := 246) rfl (by decide +kernel) zSh_49 rfl f27.2.2.2.2.2.2.2.1 <|
  WP.aload_n (pc2 := 247) (i := 0) rfl (by decide +kernel) rfl <|
  WP.dup (pc2 := 248) rfl (by decide +kernel) <|
  WP.getI (pc2 := 251) rfl (by decide +kernel) zc_12 zSh_37 (by decide) rfl lf_X12_201 rfl ((zup_k _ _ _ _ _ _ (by decide)).trans ((zup_k _ _ _ _ _ _ (by decide)).trans ((zup_k _ _ _ _ _ _ (by decide)).trans ((zup_k _ _ _ _ _ _ (by decide)).trans ((zup_k _ _ _ _ _ _ (by decide)).trans (zup_k _ _ _ _ _ _ (by decide))))))) <|
  WP.iconst (pc2 := 252) (x := 1) rfl (by decide +kernel) (by decide) <|
  WP.iadd (pc2 := 253) rfl (by decide +kernel) f27.2.2.2.2.2.2.2.2.1 <|
  WP.putI (pc2 := 256) rfl (by decide +kernel) zc_12 zSh_37 (by decide) rfl lf_X12_201 rfl (z_int _) rfl <|
  WP.goto (off := -168) (tgt := 88) (by decide +kernel) (by decide) <|
  f27.2.2.2.2.2.2.2.2.2) (fun h => absurd h (by decide))))))) (fun h44 => have f46 := F.2 h44
  WP.aload_n (pc2 := 114) (i := 0) rfl (by decide +kernel) rfl <|
  WP.getR (pc2 := 117) rfl (by decide +kernel) zc_12 zSh_37 (by decide) rfl lf_X12_128 rfl (rs_37_54 hM) <|
  WP.iload_n (pc2 := 118) (i := 3) rfl (by decide +kernel) rfl <|
  WP.baload (pc2 := 119) rfl (by decide +kernel) zSh_74 (by decide) rfl f46.1 rfl <|
  WP.if_ne (pc2 := 122) (off := 9) (tgt := 128) rfl (by decide +kernel) (by decide) (fun h41 => have f42 := f46.2.1 h41
  WP.iload_n (pc2 := 129) (i := 3) rfl (by decide +kernel) rfl <|
  WP.aload_n (pc2 := 130) (i := 0) rfl (by decide +kernel) rfl <|
  WP.getI (pc2 := 133) rfl (by decide +kernel) zc_12 zSh_37 (by decide) rfl lf_X12_195 rfl rfl <|
  WP.icmp_ge (pc2 := 136) (off := 47) (tgt := 180) rfl (by decide +kernel) (by decide) (fun h38 => have f39 := f42.1 h38
  WP.iconst (pc2 := 181) (x := 0) rfl (by decide +kernel) (by decide) <|
  WP.istore_n (pc2 := 182) (i := 2) rfl (by decide +kernel) (by decide) <|
  WP.iload_n (pc2 := 183) (i := 2) rfl (by decide +kernel) rfl <|
  WP.if_ne (pc2 := 186) (off := 6) (tgt := 189) rfl (by decide +kernel) (by decide) (fun h => absurd h (by decide)) (fun _ =>
  WP.goto (off := -98) (tgt := 88) (by decide +kernel) (by decide) <|
  f39)) (fun h38 => have f40 := f42.2 h38
  WP.aload_n (pc2 := 137) (i := 0) rfl (by decide +kernel) rfl <|
  WP.iload_n (pc2 := 138) (i := 3) rfl (by decide +kernel) rfl <|
  WP.aload_n (pc2 := 139) (i := 0) rfl (by decide +kernel) rfl <|
  WP.getR (pc2 := 142) rfl (by decide +kernel) zc_12 zSh_37 (by decide) rfl lf_X12_27 rfl (rs_37_11 hM) <|
  WP.aload_n (pc2 := 143) (i := 0) rfl (by decide +kernel) rfl <|
  WP.getR (pc2 := 146) rfl (by decide +kernel) zc_12 zSh_37 (by decide) rfl lf_X12_43 rfl (rs_37_22 hM) <|
  WP.aload_n (pc2 := 147) (i := 0) rfl (by decide +kernel) rfl <|
  WP.getI (pc2 := 150) rfl (by decide +kernel) zc_12 zSh_37 (by decide) rfl lf_X12_201 rfl rfl <|
  WP.iaload (pc2 := 151) rfl (by decide +kernel) zSh_46 rfl f40.1 rfl <|
  WP.iaload (pc2 := 152) rfl (by decide +kernel) zSh_41 rfl f40.2.1 rfl <|
  WP.aload_n (pc2 := 153) (i := 0) rfl (by decide +kernel) rfl <|
  WP.getR (pc2 := 156) rfl (by decide +kernel) zc_12 zSh_37 (by decide) rfl lf_X12_27 rfl (rs_37_11 hM) <|
  WP.aload_n (pc2 := 157) (i := 0) rfl (by decide +kernel) rfl <|
  WP.getR (pc2 := 160) rfl (by decide +kernel) zc_12 zSh_37 (by decide) rfl lf_X12_46 rfl (rs_37_23 hM) <|
  WP.aload_n (pc2 := 161) (i := 0) rfl (by decide +kernel) rfl <|
  WP.getI (pc2 := 164) rfl (by decide +kernel) zc_12 zSh_37 (by decide) rfl lf_X12_201 rfl rfl <|
  WP.iaload (pc2 := 165) rfl (by decide +kernel) zSh_47 rfl f40.2.2.1 rfl <|
  WP.iaload (pc2 := 166) rfl (by decide +kernel) zSh_41 rfl f40.2.2.2.1 rfl <|
  WP.aload_n (pc2 := 167) (i := 0) rfl (by decide +kernel) rfl <|
  WP.getI (pc2 := 170) rfl (by decide +kernel) zc_12 zSh_37 (by decide) rfl lf_X12_207 rfl rfl <|
  WP.callV (y := mX12_baseActs) (index := 267) (pc2 := 173) (y' := mX12_finds) (vs := [.inl a3, .inl (hi 41 0 (hi 46 0 (hi 37 0 20))), .inl (hi 41 0 (hi 47 0 (hi 37 0 20))), .inl (hi 37 0 61)]) rfl (by decide +kernel) okX12_finds ⟨by decide, by decide⟩ ⟨lm_X12_267, ivX12_finds⟩ zSh_37 zc_12 (Nat.le_of_ble_eq_true rfl) ⟨rfl, rfl⟩ rfl (WP.c1i f40.2.2.2.2 (fun x32 hi33 _ f37 =>
  WP.if_eq (pc2 := 176) (off := 7) (tgt := 180) rfl (by decide +kernel) (by decide) (fun h34 => have f35 := f37.1 h34
  WP.iconst (pc2 := 181) (x := 0) rfl (by decide +kernel) (by decide) <|
  WP.istore_n (pc2 := 182) (i := 2) rfl (by decide +kernel) (by decide) <|
  WP.iload_n (pc2 := 183) (i := 2) rfl (by decide +kernel) rfl <|
  WP.if_ne (pc2 := 186) (off := 6) (tgt := 189) rfl (by decide +kernel) (by decide) (fun h => absurd h (by decide)) (fun _ =>
  WP.goto (off := -98) (tgt := 88) (by decide +kernel) (by decide) <|
  f35)) (fun h34 => have f36 := f37.2 h34
  WP.iconst (pc2 := 177) (x := 1) rfl (by decide +kernel) (by decide) <|
  WP.goto (off := 4) (tgt := 181) (by decide +kernel) (by decide) <|
  WP.istore_n (pc2 := 182) (i := 2) rfl (by decide +kernel) (by decide) <|
  WP.iload_n (pc2 := 183) (i := 2) rfl (by decide +kernel) rfl <|
  WP.if_ne (pc2 := 186) (off := 6) (tgt := 189) rfl (by decide +kernel) (by decide) (fun _ =>
  WP.aload_n (pc2 := 190) (i := 0) rfl (by decide +kernel) rfl <|
  WP.getR (pc2 := 193) rfl (by decide +kernel) zc_12 zSh_37 (by decide) rfl lf_X12_128 rfl (rs_37_54 hM) <|
  WP.iload_n (pc2 := 194) (i := 3) rfl (by decide +kernel) rfl <|
  WP.iconst (pc2 := 195) (x := 0) rfl (by decide +kernel) (by decide) <|
  WP.bastore (pc2 := 196) rfl (by decide +kernel) zSh_74 (Or.inr ⟨rfl, by decide, by decide⟩) rfl f36.1 <|
  WP.aload_n (pc2 := 197) (i := 0) rfl (by decide +kernel) rfl <|
  WP.getR (pc2 := 200) rfl (by decide +kernel) zc_12 zSh_37 (by decide) rfl lf_X12_137 rfl (rs_37_57 hM) <|
  WP.iload_n (pc2 := 201) (i := 3) rfl (by decide +kernel) rfl <|
  WP.dup2 (pc2 := 202) rfl (by decide +kernel) <|
  WP.iaload (pc2 := 203) rfl (by decide +kernel) zSh_77 rfl f36.2.1 (zup_k _ _ _ _ _ _ (by decide)) <|
  WP.iconst (pc2 := 204) (x := 1) rfl (by decide +kernel) (by decide) <|
  WP.iadd (pc2 := 205) rfl (by decide +kernel) f36.2.2.1 <|
  WP.iastore (pc2 := 206) rfl (by decide +kernel) zSh_77 rfl f36.2.2.2.1 <|
  WP.aload_n (pc2 := 207) (i := 0) rfl (by decide +kernel) rfl <|
  WP.getR (pc2 := 210) rfl (by decide +kernel) zc_12 zSh_37 (by decide) rfl lf_X12_140 rfl (rs_37_58 hM) <|
  WP.iload_n (pc2 := 211) (i := 3) rfl (by decide +kernel) rfl <|
  WP.aload_n (pc2 := 212) (i := 0) rfl (by decide +kernel) rfl <|
  WP.getI (pc2 := 215) rfl (by decide +kernel) zc_12 zSh_37 (by decide) rfl lf_X12_201 rfl ((zup_k _ _ _ _ _ _ (by decide)).trans (zup_k _ _ _ _ _ _ (by decide))) <|
  WP.iastore (pc2 := 216) rfl (by decide +kernel) zSh_78 rfl f36.2.2.2.2.1 <|
  WP.aload_n (pc2 := 217) (i := 0) rfl (by decide +kernel) rfl <|
  WP.getR (pc2 := 220) rfl (by decide +kernel) zc_12 zSh_37 (by decide) rfl lf_X12_143 rfl (rs_37_59 hM) <|
  WP.iload_n (pc2 := 221) (i := 3) rfl (by decide +kernel) rfl <|
  WP.iconst (pc2 := 222) (x := 0) rfl (by decide +kernel) (by decide) <|
  WP.iastore (pc2 := 223) rfl (by decide +kernel) zSh_79 rfl f36.2.2.2.2.2.1 <|
  WP.aload_n (pc2 := 224) (i := 0) rfl (by decide +kernel) rfl <|
  WP.getR (pc2 := 227) rfl (by decide +kernel) zc_12 zSh_37 (by decide) rfl lf_X12_49 rfl (rs_37_24 hM) <|
  WP.aload_n (pc2 := 228) (i := 0) rfl (by decide +kernel) rfl <|
  WP.getI (pc2 := 231) rfl (by decide +kernel) zc_12 zSh_37 (by decide) rfl lf_X12_201 rfl ((zup_k _ _ _ _ _ _ (by decide)).trans ((zup_k _ _ _ _ _ _ (by decide)).trans ((zup_k _ _ _ _ _ _ (by decide)).trans (zup_k _ _ _ _ _ _ (by decide))))) <|
  WP.iload_n (pc2 := 232) (i := 3) rfl (by decide +kernel) rfl <|
  WP.iastore (pc2 := 233) rfl (by decide +kernel) zSh_48 rfl f36.2.2.2.2.2.2.1 <|
  WP.aload_n (pc2 := 234) (i := 0) rfl (by decide +kernel) rfl <|
  WP.getR (pc2 := 237) rfl (by decide +kernel) zc_12 zSh_37 (by decide) rfl lf_X12_52 rfl (rs_37_25 hM) <|
  WP.aload_n (pc2 := 238) (i := 0) rfl (by decide +kernel) rfl <|
  WP.getI (pc2 := 241) rfl (by decide +kernel) zc_12 zSh_37 (by decide) rfl lf_X12_201 rfl ((zup_k _ _ _ _ _ _ (by decide)).trans ((zup_k _ _ _ _ _ _ (by decide)).trans ((zup_k _ _ _ _ _ _ (by decide)).trans ((zup_k _ _ _ _ _ _ (by decide)).trans (zup_k _ _ _ _ _ _ (by decide)))))) <|
  WP.aload_n (pc2 := 242) (i := 0) rfl (by decide +kernel) rfl <|
  WP.getI (pc2 := 245) rfl (by decide +kernel) zc_12 zSh_37 (by decide) rfl lf_X12_207 rfl ((zup_k _ _ _ _ _ _ (by decide)).trans ((zup_k _ _ _ _ _ _ (by decide)).trans ((zup_k _ _ _ _ _ _ (by decide)).trans ((zup_k _ _ _ _ _ _ (by decide)).trans (zup_k _ _ _ _ _ _ (by decide)))))) <|
  WP.iastore (pc2 := 246) rfl (by decide +kernel) zSh_49 rfl f36.2.2.2.2.2.2.2.1 <|
  WP.aload_n (pc2 := 247) (i := 0) rfl (by decide +kernel) rfl <|
  WP.dup (pc2 := 248) rfl (by decide +kernel) <|
  WP.getI (pc2 := 251) rfl (by decide +kernel) zc_12 zSh_37 (by decide) rfl lf_X12_201 rfl ((zup_k _ _ _ _ _ _ (by decide)).trans ((zup_k _ _ _ _ _ _ (by decide)).trans ((zup_k _ _ _ _ _ _ (by decide)).trans ((zup_k _ _ _ _ _ _ (by decide)).trans ((zup_k _ _ _ _ _ _ (by decide)).trans (zup_k _ _ _ _ _ _ (by decide))))))) <|
  WP.iconst (pc2 := 252) (x := 1) rfl (by decide +kernel) (by decide) <|
  WP.iadd (pc2 := 253) rfl (by decide +kernel) f36.2.2.2.2.2.2.2.2.1 <|
  WP.putI (pc2 := 256) rfl (by decide +kernel) zc_12 zSh_37 (by decide) rfl lf_X12_201 rfl (z_int _) rfl <|
  WP.goto (off := -168) (tgt := 88) (by decide +kernel) (by decide) <|
  f36.2.2.2.2.2.2.2.2.2) (fun h => absurd h (by decide))))))) (fun h41 => have f43 := f46.2.2 h41
  WP.iinc (pc2 := 125) (i := 3) (d := 1) rfl (by decide +kernel) rfl f43.1 <|
  WP.goto (off := -20) (tgt := 105) (by decide +kernel) (by decide) <|
  f43.2))

set_option maxRecDepth 100000 in
set_option maxHeartbeats 4000000 in
theorem GX12_baseActs_88 {hi : zI} {hr : zR} {P : Int → zI → Prop} (a1 : Int) (a2 : Int) (u3 : Option zV) 
    (F : (a2 = 0 → (WP mX12_baseActs 261 [some (.inr (some (37, 0))), some (.inl a1), some (.inl a2), some (.inl 0)] [] hi hr (zQ1i hr P))) ∧ (a2 ≠ 0 → ((hi 37 0 19 ≤ hi 37 0 20 → (WP mX12_baseActs 261 [some (.inr (some (37, 0))), some (.inl a1), some (.inl a2), some (.inl 0)] [] hi hr (zQ1i hr P))) ∧ (hi 37 0 20 < hi 37 0 19 → (WP mX12_baseActs 105 [some (.inr (some (37, 0))), some (.inl a1), some (.inl a2), some (.inl 0)] [] hi hr (zQ1i hr P)))))) :
    WP mX12_baseActs 88 [some (.inr (some (37, 0))), some (.inl a1), some (.inl a2), u3] [] hi hr (zQ1i hr P) :=
  WP.iload_n (pc2 := 89) (i := 2) rfl (by decide +kernel) rfl <|
  WP.if_eq (pc2 := 92) (off := 170) (tgt := 259) rfl (by decide +kernel) (by decide) (fun h50 => have f51 := F.1 h50
  WP.iconst (pc2 := 260) (x := 0) rfl (by decide +kernel) (by decide) <|
  WP.istore_n (pc2 := 261) (i := 3) rfl (by decide +kernel) (by decide) <|
  f51) (fun h50 => have f52 := F.2 h50
  WP.aload_n (pc2 := 93) (i := 0) rfl (by decide +kernel) rfl <|
  WP.getI (pc2 := 96) rfl (by decide +kernel) zc_12 zSh_37 (by decide) rfl lf_X12_201 rfl rfl <|
  WP.aload_n (pc2 := 97) (i := 0) rfl (by decide +kernel) rfl <|
  WP.getI (pc2 := 100) rfl (by decide +kernel) zc_12 zSh_37 (by decide) rfl lf_X12_198 rfl rfl <|
  WP.icmp_ge (pc2 := 103) (off := 159) (tgt := 259) rfl (by decide +kernel) (by decide) (fun h47 => have f48 := f52.1 h47
  WP.iconst (pc2 := 260) (x := 0) rfl (by decide +kernel) (by decide) <|
  WP.istore_n (pc2 := 261) (i := 3) rfl (by decide +kernel) (by decide) <|
  f48) (fun h47 => have f49 := f52.2 h47
  WP.iconst (pc2 := 104) (x := 0) rfl (by decide +kernel) (by decide) <|
  WP.istore_n (pc2 := 105) (i := 3) rfl (by decide +kernel) (by decide) <|
  f49))
set_option maxRecDepth 100000 in
set_option maxHeartbeats 4000000 in
theorem GX12_grants {hi : zI} {hr : zR} {P : zI → Prop} (hM : RSm hr) (l1 : Int) 
    (F : W0i mX12_known [.inr (some (37, 0)), .inl l1] hi hr (fun (x1 : Int) => (zInR (x1 + 1)) ∧ ((0 ≤ l1 ∧ l1 < 6) ∧ ((hi 77 0 l1 = 0 → P hi) ∧ (hi 77 0 l1 ≠ 0 → ((0 ≤ l1 ∧ l1 < 6) ∧ ((x1 + 1 ≤ hi 54 0 l1 → ((zInR (301 * l1)) ∧ ((zInR ((301 * l1) + (x1 + 1))) ∧ ((0 ≤ (301 * l1) + (x1 + 1) ∧ (301 * l1) + (x1 + 1) < 1806) ∧ ((0 ≤ l1 ∧ l1 < 6) ∧ ((hi 79 0 l1 < x1 + 1 → ((zInR (301 * l1)) ∧ ((zInR ((301 * l1) + (x1 + 1))) ∧ ((0 ≤ (301 * l1) + (x1 + 1) ∧ (301 * l1) + (x1 + 1) < 1806) ∧ ((zInR ((hi 37 0 61) + 1)) ∧ ((hi 56 0 ((301 * l1) + (x1 + 1)) ≤ (hi 37 0 61) + 1 → ((hi 55 0 ((301 * l1) + (x1 + 1)) = -1 → ((0 ≤ l1 ∧ l1 < 6) ∧ ((0 ≤ l1 ∧ l1 < 6) ∧ ((0 ≤ l1 ∧ l1 < 6) ∧ (W1v mX12_sends [.inr (some (37, 0)), .inl 0, .inl l1, .inl (hi 77 0 l1), .inl (x1 + 1), .inl (hi 55 0 ((301 * l1) + (x1 + 1)))] (zup (zup hi 79 0 l1 (x1 + 1)) 80 0 l1 (hi 37 0 61)) hr (fun (hi2 : zI) => P hi2)))))) ∧ (hi 55 0 ((301 * l1) + (x1 + 1)) ≠ -1 → (W1v mX12_waitFor [.inr (some (37, 0)), .inl (hi 55 0 ((301 * l1) + (x1 + 1)))] hi hr (fun (hi4 : zI) => (hi4 37 0 63 ≠ l1 → P hi4) ∧ (hi4 37 0 63 = l1 → ((hi4 37 0 64 = x1 + 1 → ((0 ≤ l1 ∧ l1 < 6) ∧ ((0 ≤ l1 ∧ l1 < 6) ∧ ((0 ≤ l1 ∧ l1 < 6) ∧ (W1v mX12_sends [.inr (some (37, 0)), .inl 0, .inl l1, .inl (hi4 77 0 l1), .inl (x1 + 1), .inl (hi 55 0 ((301 * l1) + (x1 + 1)))] (zup (zup hi4 79 0 l1 (x1 + 1)) 80 0 l1 (hi4 37 0 61)) hr (fun (hi5 : zI) => P hi5)))))) ∧ (hi4 37 0 64 ≠ x1 + 1 → P hi4)))))))) ∧ ((hi 37 0 61) + 1 < hi 56 0 ((301 * l1) + (x1 + 1)) → P hi))))))) ∧ (x1 + 1 ≤ hi 79 0 l1 → ((0 ≤ l1 ∧ l1 < 6) ∧ ((zInR ((hi 37 0 61) - (hi 80 0 l1))) ∧ ((4 ≤ (hi 37 0 61) - (hi 80 0 l1) → ((0 ≤ l1 ∧ l1 < 6) ∧ ((0 ≤ l1 ∧ l1 < 6) ∧ ((0 ≤ l1 ∧ l1 < 6) ∧ (W1v mX12_sends [.inr (some (37, 0)), .inl 0, .inl l1, .inl (hi 77 0 l1), .inl (x1 + 1), .inl (hi 55 0 ((301 * l1) + (x1 + 1)))] (zup (zup hi 79 0 l1 (x1 + 1)) 80 0 l1 (hi 37 0 61)) hr (fun (hi20 : zI) => P hi20)))))) ∧ ((hi 37 0 61) - (hi 80 0 l1) < 4 → P hi))))))))))) ∧ (hi 54 0 l1 < x1 + 1 → P hi)))))))) :
    W1v mX12_grants [.inr (some (37, 0)), .inl l1] hi hr P :=
  WPm.of rfl (show WP mX12_grants 0 [some (.inr (some (37, 0))), some (.inl l1), none, none] [] hi hr (zQ1v hr P) from
  WP.aload_n (pc2 := 1) (i := 0) rfl (by decide +kernel) rfl <|
  WP.iload_n (pc2 := 2) (i := 1) rfl (by decide +kernel) rfl <|
  WP.callV (y := mX12_grants) (index := 251) (pc2 := 5) (y' := mX12_known) (vs := [.inl l1]) rfl (by decide +kernel) okX12_known ⟨by decide, by decide⟩ ⟨lm_X12_251, ivX12_known⟩ zSh_37 zc_12 (Nat.le_of_ble_eq_true rfl) ⟨rfl, rfl⟩ rfl (WP.c0i F (fun x1 _ f34 =>
  WP.iconst (pc2 := 6) (x := 1) rfl (by decide +kernel) (by decide) <|
  WP.iadd (pc2 := 7) rfl (by decide +kernel) f34.1 <|
  WP.istore_n (pc2 := 8) (i := 2) rfl (by decide +kernel) (by decide) <|
  WP.aload_n (pc2 := 9) (i := 0) rfl (by decide +kernel) rfl <|
  WP.getR (pc2 := 12) rfl (by decide +kernel) zc_12 zSh_37 (by decide) rfl lf_X12_137 rfl (rs_37_57 hM) <|
  WP.iload_n (pc2 := 13) (i := 1) rfl (by decide +kernel) rfl <|
  WP.iaload (pc2 := 14) rfl (by decide +kernel) zSh_77 rfl f34.2.1 rfl <|
  WP.if_eq (pc2 := 17) (off := 13) (tgt := 27) rfl (by decide +kernel) (by decide) (fun h31 => have f32 := f34.2.2.1 h31
  WP.vret (by decide +kernel) rfl ⟨rfl, rfl, f32⟩) (fun h31 => have f33 := f34.2.2.2 h31
  WP.iload_n (pc2 := 18) (i := 2) rfl (by decide +kernel) rfl <|
  WP.aload_n (pc2 := 19) (i := 0) rfl (by decide +kernel) rfl <|
  WP.getR (pc2 := 22) rfl (by decide +kernel) zc_12 zSh_37 (by decide) rfl lf_X12_67 rfl (rs_37_30 hM) <|
  WP.iload_n (pc2 := 23) (i := 1) rfl (by decide +kernel) rfl <|
  WP.iaload (pc2 := 24) rfl (by decide +kernel) zSh_54 rfl f33.1 rfl <|
  WP.icmp_le (pc2 := 27) (off := 4) (tgt := 28) rfl (by decide +kernel) (by decide) (fun h28 => have f29 := f33.2.1 h28
  WP.aload_n (pc2 := 29) (i := 0) rfl (by decide +kernel) rfl <|
  WP.getR (pc2 := 32) rfl (by decide +kernel) zc_12 zSh_37 (by decide) rfl lf_X12_70 rfl (rs_37_31 hM) <|
  WP.sipush (pc2 := 35) (x := 301) rfl (by decide +kernel) ⟨by decide +kernel, by decide⟩ <|
  WP.iload_n (pc2 := 36) (i := 1) rfl (by decide +kernel) rfl <|
  WP.imul (pc2 := 37) rfl (by decide +kernel) f29.1 <|
  WP.iload_n (pc2 := 38) (i := 2) rfl (by decide +kernel) rfl <|
  WP.iadd (pc2 := 39) rfl (by decide +kernel) f29.2.1 <|
  WP.iaload (pc2 := 40) rfl (by decide +kernel) zSh_55 rfl f29.2.2.1 rfl <|
  WP.istore_n (pc2 := 41) (i := 3) rfl (by decide +kernel) (by decide) <|
  WP.aload_n (pc2 := 42) (i := 0) rfl (by decide +kernel) rfl <|
  WP.getR (pc2 := 45) rfl (by decide +kernel) zc_12 zSh_37 (by decide) rfl lf_X12_143 rfl (rs_37_59 hM) <|
  WP.iload_n (pc2 := 46) (i := 1) rfl (by decide +kernel) rfl <|
  WP.iaload (pc2 := 47) rfl (by decide +kernel) zSh_79 rfl f29.2.2.2.1 rfl <|
  WP.iload_n (pc2 := 48) (i := 2) rfl (by decide +kernel) rfl <|
  WP.icmp_lt (pc2 := 51) (off := 19) (tgt := 67) rfl (by decide +kernel) (by decide) (fun h25 => have f26 := f29.2.2.2.2.1 h25
  WP.aload_n (pc2 := 68) (i := 0) rfl (by decide +kernel) rfl <|
  WP.getR (pc2 := 71) rfl (by decide +kernel) zc_12 zSh_37 (by decide) rfl lf_X12_73 rfl (rs_37_32 hM) <|
  WP.sipush (pc2 := 74) (x := 301) rfl (by decide +kernel) ⟨by decide +kernel, by decide⟩ <|
  WP.iload_n (pc2 := 75) (i := 1) rfl (by decide +kernel) rfl <|
  WP.imul (pc2 := 76) rfl (by decide +kernel) f26.1 <|
  WP.iload_n (pc2 := 77) (i := 2) rfl (by decide +kernel) rfl <|
  WP.iadd (pc2 := 78) rfl (by decide +kernel) f26.2.1 <|
  WP.iaload (pc2 := 79) rfl (by decide +kernel) zSh_56 rfl f26.2.2.1 rfl <|
  WP.aload_n (pc2 := 80) (i := 0) rfl (by decide +kernel) rfl <|
  WP.getI (pc2 := 83) rfl (by decide +kernel) zc_12 zSh_37 (by decide) rfl lf_X12_207 rfl rfl <|
  WP.iconst (pc2 := 84) (x := 1) rfl (by decide +kernel) (by decide) <|
  WP.iadd (pc2 := 85) rfl (by decide +kernel) f26.2.2.2.1 <|
  WP.icmp_le (pc2 := 88) (off := 4) (tgt := 89) rfl (by decide +kernel) (by decide) (fun h17 => have f18 := f26.2.2.2.2.1 h17
  WP.iload_n (pc2 := 90) (i := 3) rfl (by decide +kernel) rfl <|
  WP.iconst (pc2 := 91) (x := -1) rfl (by decide +kernel) (by decide) <|
  WP.icmp_eq (pc2 := 94) (off := 25) (tgt := 116) rfl (by decide +kernel) (by decide) (fun h14 => have f15 := f18.1 h14
  WP.aload_n (pc2 := 117) (i := 0) rfl (by decide +kernel) rfl <|
  WP.getR (pc2 := 120) rfl (by decide +kernel) zc_12 zSh_37 (by decide) rfl lf_X12_143 rfl (rs_37_59 hM) <|
  WP.iload_n (pc2 := 121) (i := 1) rfl (by decide +kernel) rfl <|
  WP.iload_n (pc2 := 122) (i := 2) rfl (by decide +kernel) rfl <|
  WP.iastore (pc2 := 123) rfl (by decide +kernel) zSh_79 rfl f15.1 <|
  WP.aload_n (pc2 := 124) (i := 0) rfl (by decide +kernel) rfl <|
  WP.getR (pc2 := 127) rfl (by decide +kernel) zc_12 zSh_37 (by decide) rfl lf_X12_146 rfl (rs_37_60 hM) <|
  WP.iload_n (pc2 := 128) (i := 1) rfl (by decide +kernel) rfl <|
  WP.aload_n (pc2 := 129) (i := 0) rfl (by decide +kernel) rfl <|
  WP.getI (pc2 := 132) rfl (by decide +kernel) zc_12 zSh_37 (by decide) rfl lf_X12_207 rfl (zup_k _ _ _ _ _ _ (by decide)) <|
  WP.iastore (pc2 := 133) rfl (by decide +kernel) zSh_80 rfl f15.2.1 <|
  WP.aload_n (pc2 := 134) (i := 0) rfl (by decide +kernel) rfl <|
  WP.iconst (pc2 := 135) (x := 0) rfl (by decide +kernel) (by decide) <|
  WP.iload_n (pc2 := 136) (i := 1) rfl (by decide +kernel) rfl <|
  WP.aload_n (pc2 := 137) (i := 0) rfl (by decide +kernel) rfl <|
  WP.getR (pc2 := 140) rfl (by decide +kernel) zc_12 zSh_37 (by decide) rfl lf_X12_137 rfl (rs_37_57 hM) <|
  WP.iload_n (pc2 := 141) (i := 1) rfl (by decide +kernel) rfl <|
  WP.iaload (pc2 := 142) rfl (by decide +kernel) zSh_77 rfl f15.2.2.1 ((zup_k _ _ _ _ _ _ (by decide)).trans (zup_k _ _ _ _ _ _ (by decide))) <|
  WP.iload_n (pc2 := 143) (i := 2) rfl (by decide +kernel) rfl <|
  WP.iload_n (pc2 := 144) (i := 3) rfl (by decide +kernel) rfl <|
  WP.callV (y := mX12_grants) (index := 247) (pc2 := 147) (y' := mX12_sends) (vs := [.inl 0, .inl l1, .inl (hi 77 0 l1), .inl (x1 + 1), .inl (hi 55 0 ((301 * l1) + (x1 + 1)))]) rfl (by decide +kernel) okX12_sends ⟨by decide, by decide⟩ ⟨lm_X12_247, ivX12_sends⟩ zSh_37 zc_12 (Nat.le_of_ble_eq_true rfl) ⟨rfl, rfl⟩ rfl (WP.c1v f15.2.2.2 (fun hi2 f3 =>
  WP.vret (by decide +kernel) rfl ⟨rfl, rfl, f3⟩))) (fun h14 => have f16 := f18.2 h14
  WP.aload_n (pc2 := 95) (i := 0) rfl (by decide +kernel) rfl <|
  WP.iload_n (pc2 := 96) (i := 3) rfl (by decide +kernel) rfl <|
  WP.callV (y := mX12_grants) (index := 273) (pc2 := 99) (y' := mX12_waitFor) (vs := [.inl (hi 55 0 ((301 * l1) + (x1 + 1)))]) rfl (by decide +kernel) okX12_waitFor ⟨by decide, by decide⟩ ⟨lm_X12_273, ivX12_waitFor⟩ zSh_37 zc_12 (Nat.le_of_ble_eq_true rfl) ⟨rfl, rfl⟩ rfl (WP.c1v f16 (fun hi4 f13 =>
  WP.aload_n (pc2 := 100) (i := 0) rfl (by decide +kernel) rfl <|
  WP.getI (pc2 := 103) rfl (by decide +kernel) zc_12 zSh_37 (by decide) rfl lf_X12_257 rfl rfl <|
  WP.iload_n (pc2 := 104) (i := 1) rfl (by decide +kernel) rfl <|
  WP.icmp_ne (pc2 := 107) (off := 11) (tgt := 115) rfl (by decide +kernel) (by decide) (fun h10 => have f11 := f13.1 h10
  WP.vret (by decide +kernel) rfl ⟨rfl, rfl, f11⟩) (fun h10 => have f12 := f13.2 h10
  WP.aload_n (pc2 := 108) (i := 0) rfl (by decide +kernel) rfl <|
  WP.getI (pc2 := 111) rfl (by decide +kernel) zc_12 zSh_37 (by decide) rfl lf_X12_260 rfl rfl <|
  WP.iload_n (pc2 := 112) (i := 2) rfl (by decide +kernel) rfl <|
  WP.icmp_eq (pc2 := 115) (off := 4) (tgt := 116) rfl (by decide +kernel) (by decide) (fun h7 => have f8 := f12.1 h7
  WP.aload_n (pc2 := 117) (i := 0) rfl (by decide +kernel) rfl <|
  WP.getR (pc2 := 120) rfl (by decide +kernel) zc_12 zSh_37 (by decide) rfl lf_X12_143 rfl (rs_37_59 hM) <|
  WP.iload_n (pc2 := 121) (i := 1) rfl (by decide +kernel) rfl <|
  WP.iload_n (pc2 := 122) (i := 2) rfl (by decide +kernel) rfl <|
  WP.iastore (pc2 := 123) rfl (by decide +kernel) zSh_79 rfl f8.1 <|
  WP.aload_n (pc2 := 124) (i := 0) rfl (by decide +kernel) rfl <|
  WP.getR (pc2 := 127) rfl (by decide +kernel) zc_12 zSh_37 (by decide) rfl lf_X12_146 rfl (rs_37_60 hM) <|
  WP.iload_n (pc2 := 128) (i := 1) rfl (by decide +kernel) rfl <|
  WP.aload_n (pc2 := 129) (i := 0) rfl (by decide +kernel) rfl <|
  WP.getI (pc2 := 132) rfl (by decide +kernel) zc_12 zSh_37 (by decide) rfl lf_X12_207 rfl (zup_k _ _ _ _ _ _ (by decide)) <|
  WP.iastore (pc2 := 133) rfl (by decide +kernel) zSh_80 rfl f8.2.1 <|
  WP.aload_n (pc2 := 134) (i := 0) rfl (by decide +kernel) rfl <|
  WP.iconst (pc2 := 135) (x := 0) rfl (by decide +kernel) (by decide) <|
  WP.iload_n (pc2 := 136) (i := 1) rfl (by decide +kernel) rfl <|
  WP.aload_n (pc2 := 137) (i := 0) rfl (by decide +kernel) rfl <|
  WP.getR (pc2 := 140) rfl (by decide +kernel) zc_12 zSh_37 (by decide) rfl lf_X12_137 rfl (rs_37_57 hM) <|
  WP.iload_n (pc2 := 141) (i := 1) rfl (by decide +kernel) rfl <|
  WP.iaload (pc2 := 142) rfl (by decide +kernel) zSh_77 rfl f8.2.2.1 ((zup_k _ _ _ _ _ _ (by decide)).trans (zup_k _ _ _ _ _ _ (by decide))) <|
  WP.iload_n (pc2 := 143) (i := 2) rfl (by decide +kernel) rfl <|
  WP.iload_n (pc2 := 144) (i := 3) rfl (by decide +kernel) rfl <|
  WP.callV (y := mX12_grants) (index := 247) (pc2 := 147) (y' := mX12_sends) (vs := [.inl 0, .inl l1, .inl (hi4 77 0 l1), .inl (x1 + 1), .inl (hi 55 0 ((301 * l1) + (x1 + 1)))]) rfl (by decide +kernel) okX12_sends ⟨by decide, by decide⟩ ⟨lm_X12_247, ivX12_sends⟩ zSh_37 zc_12 (Nat.le_of_ble_eq_true rfl) ⟨rfl, rfl⟩ rfl (WP.c1v f8.2.2.2 (fun hi5 f6 =>
  WP.vret (by decide +kernel) rfl ⟨rfl, rfl, f6⟩))) (fun h7 => have f9 := f12.2 h7
  WP.vret (by decide +kernel) rfl ⟨rfl, rfl, f9⟩)))))) (fun h17 => have f19 := f26.2.2.2.2.2 h17
  WP.vret (by decide +kernel) rfl ⟨rfl, rfl, f19⟩)) (fun h25 => have f27 := f29.2.2.2.2.2 h25
  WP.aload_n (pc2 := 52) (i := 0) rfl (by decide +kernel) rfl <|
  WP.getI (pc2 := 55) rfl (by decide +kernel) zc_12 zSh_37 (by decide) rfl lf_X12_207 rfl rfl <|
  WP.aload_n (pc2 := 56) (i := 0) rfl (by decide +kernel) rfl <|
  WP.getR (pc2 := 59) rfl (by decide +kernel) zc_12 zSh_37 (by decide) rfl lf_X12_146 rfl (rs_37_60 hM) <|
  WP.iload_n (pc2 := 60) (i := 1) rfl (by decide +kernel) rfl <|
  WP.iaload (pc2 := 61) rfl (by decide +kernel) zSh_80 rfl f27.1 rfl <|
  WP.isub (pc2 := 62) rfl (by decide +kernel) f27.2.1 <|
  WP.iconst (pc2 := 63) (x := 4) rfl (by decide +kernel) (by decide) <|
  WP.icmp_ge (pc2 := 66) (off := 53) (tgt := 116) rfl (by decide +kernel) (by decide) (fun h22 => have f23 := f27.2.2.1 h22
  WP.aload_n (pc2 := 117) (i := 0) rfl (by decide +kernel) rfl <|
  WP.getR (pc2 := 120) rfl (by decide +kernel) zc_12 zSh_37 (by decide) rfl lf_X12_143 rfl (rs_37_59 hM) <|
  WP.iload_n (pc2 := 121) (i := 1) rfl (by decide +kernel) rfl <|
  WP.iload_n (pc2 := 122) (i := 2) rfl (by decide +kernel) rfl <|
  WP.iastore (pc2 := 123) rfl (by decide +kernel) zSh_79 rfl f23.1 <|
  WP.aload_n (pc2 := 124) (i := 0) rfl (by decide +kernel) rfl <|
  WP.getR (pc2 := 127) rfl (by decide +kernel) zc_12 zSh_37 (by decide) rfl lf_X12_146 rfl (rs_37_60 hM) <|
  WP.iload_n (pc2 := 128) (i := 1) rfl (by decide +kernel) rfl <|
  WP.aload_n (pc2 := 129) (i := 0) rfl (by decide +kernel) rfl <|
  WP.getI (pc2 := 132) rfl (by decide +kernel) zc_12 zSh_37 (by decide) rfl lf_X12_207 rfl (zup_k _ _ _ _ _ _ (by decide)) <|
  WP.iastore (pc2 := 133) rfl (by decide +kernel) zSh_80 rfl f23.2.1 <|
  WP.aload_n (pc2 := 134) (i := 0) rfl (by decide +kernel) rfl <|
  WP.iconst (pc2 := 135) (x := 0) rfl (by decide +kernel) (by decide) <|
  WP.iload_n (pc2 := 136) (i := 1) rfl (by decide +kernel) rfl <|
  WP.aload_n (pc2 := 137) (i := 0) rfl (by decide +kernel) rfl <|
  WP.getR (pc2 := 140) rfl (by decide +kernel) zc_12 zSh_37 (by decide) rfl lf_X12_137 rfl (rs_37_57 hM) <|
  WP.iload_n (pc2 := 141) (i := 1) rfl (by decide +kernel) rfl <|
  WP.iaload (pc2 := 142) rfl (by decide +kernel) zSh_77 rfl f23.2.2.1 ((zup_k _ _ _ _ _ _ (by decide)).trans (zup_k _ _ _ _ _ _ (by decide))) <|
  WP.iload_n (pc2 := 143) (i := 2) rfl (by decide +kernel) rfl <|
  WP.iload_n (pc2 := 144) (i := 3) rfl (by decide +kernel) rfl <|
  WP.callV (y := mX12_grants) (index := 247) (pc2 := 147) (y' := mX12_sends) (vs := [.inl 0, .inl l1, .inl (hi 77 0 l1), .inl (x1 + 1), .inl (hi 55 0 ((301 * l1) + (x1 + 1)))]) rfl (by decide +kernel) okX12_sends ⟨by decide, by decide⟩ ⟨lm_X12_247, ivX12_sends⟩ zSh_37 zc_12 (Nat.le_of_ble_eq_true rfl) ⟨rfl, rfl⟩ rfl (WP.c1v f23.2.2.2 (fun hi20 f21 =>
  WP.vret (by decide +kernel) rfl ⟨rfl, rfl, f21⟩))) (fun h22 => have f24 := f27.2.2.2 h22
  WP.vret (by decide +kernel) rfl ⟨rfl, rfl, f24⟩))) (fun h28 => have f30 := f33.2.2 h28
  WP.vret (by decide +kernel) rfl ⟨rfl, rfl, f30⟩)))))
set_option maxRecDepth 100000 in
set_option maxHeartbeats 4000000 in
theorem GX12_run {hi : zI} {hr : zR} {P : Int → zI → Prop} (l1 : Int) 
    (F : (l1 < 1 → (P (-1) hi)) ∧ (1 ≤ l1 → ((50 < l1 → (P (-1) hi)) ∧ (l1 ≤ 50 → ((zInR ((hi 37 0 61) + l1)) ∧ (((hi 37 0 61) + l1 ≤ 600 → (WP mX12_run 29 [some (.inr (some (37, 0))), some (.inl l1), some (.inl 0), some (.inl 0), none] [] hi hr (zQ1i hr P))) ∧ (600 < (hi 37 0 61) + l1 → (P (-1) hi)))))))) :
    W1i mX12_run [.inr (some (37, 0)), .inl l1] hi hr P :=
  WPm.of rfl (show WP mX12_run 0 [some (.inr (some (37, 0))), some (.inl l1), none, none, none] [] hi hr (zQ1i hr P) from
  WP.iload_n (pc2 := 1) (i := 1) rfl (by decide +kernel) rfl <|
  WP.iconst (pc2 := 2) (x := 1) rfl (by decide +kernel) (by decide) <|
  WP.icmp_lt (pc2 := 5) (off := 21) (tgt := 23) rfl (by decide +kernel) (by decide) (fun h7 => have f8 := F.1 h7
  WP.iconst (pc2 := 24) (x := -1) rfl (by decide +kernel) (by decide) <|
  WP.iret (by decide +kernel) rfl (fun hx => ⟨_, rfl, hx, rfl, f8⟩)) (fun h7 => have f9 := F.2 h7
  WP.iload_n (pc2 := 6) (i := 1) rfl (by decide +kernel) rfl <|
  WP.bipush (pc2 := 8) (x := 50) rfl (by decide +kernel) ⟨by decide +kernel, by decide⟩ <|
  WP.icmp_gt (pc2 := 11) (off := 15) (tgt := 23) rfl (by decide +kernel) (by decide) (fun h4 => have f5 := f9.1 h4
  WP.iconst (pc2 := 24) (x := -1) rfl (by decide +kernel) (by decide) <|
  WP.iret (by decide +kernel) rfl (fun hx => ⟨_, rfl, hx, rfl, f5⟩)) (fun h4 => have f6 := f9.2 h4
  WP.aload_n (pc2 := 12) (i := 0) rfl (by decide +kernel) rfl <|
  WP.getI (pc2 := 15) rfl (by decide +kernel) zc_12 zSh_37 (by decide) rfl lf_X12_207 rfl rfl <|
  WP.iload_n (pc2 := 16) (i := 1) rfl (by decide +kernel) rfl <|
  WP.iadd (pc2 := 17) rfl (by decide +kernel) f6.1 <|
  WP.sipush (pc2 := 20) (x := 600) rfl (by decide +kernel) ⟨by decide +kernel, by decide⟩ <|
  WP.icmp_le (pc2 := 23) (off := 5) (tgt := 25) rfl (by decide +kernel) (by decide) (fun h1 => have f2 := f6.2.1 h1
  WP.iconst (pc2 := 26) (x := 0) rfl (by decide +kernel) (by decide) <|
  WP.istore_n (pc2 := 27) (i := 2) rfl (by decide +kernel) (by decide) <|
  WP.iconst (pc2 := 28) (x := 0) rfl (by decide +kernel) (by decide) <|
  WP.istore_n (pc2 := 29) (i := 3) rfl (by decide +kernel) (by decide) <|
  f2) (fun h1 => have f3 := f6.2.2 h1
  WP.iconst (pc2 := 24) (x := -1) rfl (by decide +kernel) (by decide) <|
  WP.iret (by decide +kernel) rfl (fun hx => ⟨_, rfl, hx, rfl, f3⟩)))))

set_option maxRecDepth 100000 in
set_option maxHeartbeats 4000000 in
theorem GX12_run_41 {hi : zI} {hr : zR} {P : Int → zI → Prop} (l1 : Int) (a2 : Int) (a3 : Int) (a4 : Int) 
    (F : (hi 37 0 10 ≤ a4 → (W1i mX12_baseActs [.inr (some (37, 0))] hi hr (fun (x15 : Int) (hi16 : zI) => (zInR (a2 + x15)) ∧ ((zInR ((hi16 37 0 61) + 1)) ∧ ((zInR (a3 + 1)) ∧ (WP mX12_run 29 [some (.inr (some (37, 0))), some (.inl l1), some (.inl (a2 + x15)), some (.inl (a3 + 1)), some (.inl a4)] [] (zup hi16 37 0 61 ((hi16 37 0 61) + 1)) hr (zQ1i hr P))))))) ∧ (a4 < hi 37 0 10 → (W1v mX12_vehicleActs [.inr (some (37, 0)), .inl a4] hi hr (fun (hi18 : zI) => (zInR (a4 + 1)) ∧ (WP mX12_run 41 [some (.inr (some (37, 0))), some (.inl l1), some (.inl a2), some (.inl a3), some (.inl (a4 + 1))] [] hi18 hr (zQ1i hr P)))))) :
    WP mX12_run 41 [some (.inr (some (37, 0))), some (.inl l1), some (.inl a2), some (.inl a3), some (.inl a4)] [] hi hr (zQ1i hr P) :=
  WP.iload (pc2 := 43) (i := 4) rfl (by decide +kernel) rfl <|
  WP.aload_n (pc2 := 44) (i := 0) rfl (by decide +kernel) rfl <|
  WP.getI (pc2 := 47) rfl (by decide +kernel) zc_12 zSh_37 (by decide) rfl lf_X12_195 rfl rfl <|
  WP.icmp_ge (pc2 := 50) (off := 15) (tgt := 62) rfl (by decide +kernel) (by decide) (fun h20 => have f21 := F.1 h20
  WP.iload_n (pc2 := 63) (i := 2) rfl (by decide +kernel) rfl <|
  WP.aload_n (pc2 := 64) (i := 0) rfl (by decide +kernel) rfl <|
  WP.callV (y := mX12_run) (index := 282) (pc2 := 67) (y' := mX12_baseActs) (vs := []) rfl (by decide +kernel) okX12_baseActs ⟨by decide, by decide⟩ ⟨lm_X12_282, ivX12_baseActs⟩ zSh_37 zc_12 (Nat.le_of_ble_eq_true rfl) ⟨rfl, rfl⟩ rfl (WP.c1i f21 (fun x15 hi16 _ f17 =>
  WP.iadd (pc2 := 68) rfl (by decide +kernel) f17.1 <|
  WP.istore_n (pc2 := 69) (i := 2) rfl (by decide +kernel) (by decide) <|
  WP.aload_n (pc2 := 70) (i := 0) rfl (by decide +kernel) rfl <|
  WP.dup (pc2 := 71) rfl (by decide +kernel) <|
  WP.getI (pc2 := 74) rfl (by decide +kernel) zc_12 zSh_37 (by decide) rfl lf_X12_207 rfl rfl <|
  WP.iconst (pc2 := 75) (x := 1) rfl (by decide +kernel) (by decide) <|
  WP.iadd (pc2 := 76) rfl (by decide +kernel) f17.2.1 <|
  WP.putI (pc2 := 79) rfl (by decide +kernel) zc_12 zSh_37 (by decide) rfl lf_X12_207 rfl (z_int _) rfl <|
  WP.iinc (pc2 := 82) (i := 3) (d := 1) rfl (by decide +kernel) rfl f17.2.2.1 <|
  WP.goto (off := -53) (tgt := 29) (by decide +kernel) (by decide) <|
  f17.2.2.2))) (fun h20 => have f22 := F.2 h20
  WP.aload_n (pc2 := 51) (i := 0) rfl (by decide +kernel) rfl <|
  WP.iload (pc2 := 53) (i := 4) rfl (by decide +kernel) rfl <|
  WP.callV (y := mX12_run) (index := 279) (pc2 := 56) (y' := mX12_vehicleActs) (vs := [.inl a4]) rfl (by decide +kernel) okX12_vehicleActs ⟨by decide, by decide⟩ ⟨lm_X12_279, ivX12_vehicleActs⟩ zSh_37 zc_12 (Nat.le_of_ble_eq_true rfl) ⟨rfl, rfl⟩ rfl (WP.c1v f22 (fun hi18 f19 =>
  WP.iinc (pc2 := 59) (i := 4) (d := 1) rfl (by decide +kernel) rfl f19.1 <|
  WP.goto (off := -18) (tgt := 41) (by decide +kernel) (by decide) <|
  f19.2)))

set_option maxRecDepth 100000 in
set_option maxHeartbeats 4000000 in
theorem GX12_run_29 {hi : zI} {hr : zR} {P : Int → zI → Prop} (l1 : Int) (a2 : Int) (a3 : Int) (u4 : Option zV) 
    (F : (l1 ≤ a3 → P a2 hi) ∧ (a3 < l1 → (W1v mX12_messagesCome [.inr (some (37, 0))] hi hr (fun (hi23 : zI) => WP mX12_run 41 [some (.inr (some (37, 0))), some (.inl l1), some (.inl a2), some (.inl a3), some (.inl 0)] [] hi23 hr (zQ1i hr P))))) :
    WP mX12_run 29 [some (.inr (some (37, 0))), some (.inl l1), some (.inl a2), some (.inl a3), u4] [] hi hr (zQ1i hr P) :=
  WP.iload_n (pc2 := 30) (i := 3) rfl (by decide +kernel) rfl <|
  WP.iload_n (pc2 := 31) (i := 1) rfl (by decide +kernel) rfl <|
  WP.icmp_ge (pc2 := 34) (off := 54) (tgt := 85) rfl (by decide +kernel) (by decide) (fun h25 => have f26 := F.1 h25
  WP.iload_n (pc2 := 86) (i := 2) rfl (by decide +kernel) rfl <|
  WP.iret (by decide +kernel) rfl (fun hx => ⟨_, rfl, hx, rfl, f26⟩)) (fun h25 => have f27 := F.2 h25
  WP.aload_n (pc2 := 35) (i := 0) rfl (by decide +kernel) rfl <|
  WP.callV (y := mX12_run) (index := 276) (pc2 := 38) (y' := mX12_messagesCome) (vs := []) rfl (by decide +kernel) okX12_messagesCome ⟨by decide, by decide⟩ ⟨lm_X12_276, ivX12_messagesCome⟩ zSh_37 zc_12 (Nat.le_of_ble_eq_true rfl) ⟨rfl, rfl⟩ rfl (WP.c1v f27 (fun hi23 f24 =>
  WP.iconst (pc2 := 39) (x := 0) rfl (by decide +kernel) (by decide) <|
  WP.istore (pc2 := 41) (i := 4) rfl (by decide +kernel) (by decide) <|
  f24)))
set_option maxRecDepth 100000 in
set_option maxHeartbeats 4000000 in
theorem GX12_cell {hi : zI} {hr : zR} {P : Int → zI → Prop} (hM : RSm hr) (l1 : Int) (l2 : Int) 
    (F : (l1 < 0 → (P (-1) hi)) ∧ (0 ≤ l1 → ((zInR ((hi 37 0 5) * (hi 37 0 6))) ∧ (((hi 37 0 5) * (hi 37 0 6) ≤ l1 → (P (-1) hi)) ∧ (l1 < (hi 37 0 5) * (hi 37 0 6) → ((l2 < 0 → (P (-1) hi)) ∧ (0 ≤ l2 → ((l2 ≤ 8 → (((l2 < 0 ∨ 8 < l2) → ((zInR (l2 - 3)) ∧ (W0i mX12_neighbour [.inr (some (37, 0)), .inl l1, .inl (l2 - 3)] hi hr (fun (x1 : Int) => P x1 hi)))) ∧ (l2 = 0 → ((0 ≤ l1 ∧ l1 < 512) ∧ (P (hi 39 0 l1) hi))) ∧ (l2 = 1 → ((0 ≤ l1 ∧ l1 < 256) ∧ (P (hi 40 0 l1) hi))) ∧ (l2 = 2 → (WP mX12_cell 96 [some (.inr (some (37, 0))), some (.inl l1), some (.inl l2), some (.inl 0)] [] hi hr (zQ1i hr P))) ∧ (l2 = 3 → ((zInR (l2 - 3)) ∧ (W0i mX12_neighbour [.inr (some (37, 0)), .inl l1, .inl (l2 - 3)] hi hr (fun (x1 : Int) => P x1 hi)))) ∧ (l2 = 4 → ((zInR (l2 - 3)) ∧ (W0i mX12_neighbour [.inr (some (37, 0)), .inl l1, .inl (l2 - 3)] hi hr (fun (x1 : Int) => P x1 hi)))) ∧ (l2 = 5 → ((zInR (l2 - 3)) ∧ (W0i mX12_neighbour [.inr (some (37, 0)), .inl l1, .inl (l2 - 3)] hi hr (fun (x1 : Int) => P x1 hi)))) ∧ (l2 = 6 → ((zInR (l2 - 3)) ∧ (W0i mX12_neighbour [.inr (some (37, 0)), .inl l1, .inl (l2 - 3)] hi hr (fun (x1 : Int) => P x1 hi)))) ∧ (l2 = 7 → (W1v mX12_waitFor [.inr (some (37, 0)), .inl l1] hi hr (fun (hi3 : zI) => P (hi3 37 0 62) hi3))) ∧ (l2 = 8 → (W1v mX12_waitFor [.inr (some (37, 0)), .inl l1] hi hr (fun (hi5 : zI) => P (hi5 37 0 63) hi5))))) ∧ (8 < l2 → (P (-1) hi)))))))))) :
    W1i mX12_cell [.inr (some (37, 0)), .inl l1, .inl l2] hi hr P :=
  WPm.of rfl (show WP mX12_cell 0 [some (.inr (some (37, 0))), some (.inl l1), some (.inl l2), none] [] hi hr (zQ1i hr P) from
  WP.iload_n (pc2 := 1) (i := 1) rfl (by decide +kernel) rfl <|
  WP.if_lt (pc2 := 4) (off := 26) (tgt := 27) rfl (by decide +kernel) (by decide) (fun h17 => have f18 := F.1 h17
  WP.iconst (pc2 := 28) (x := -1) rfl (by decide +kernel) (by decide) <|
  WP.iret (by decide +kernel) rfl (fun hx => ⟨_, rfl, hx, rfl, f18⟩)) (fun h17 => have f19 := F.2 h17
  WP.iload_n (pc2 := 5) (i := 1) rfl (by decide +kernel) rfl <|
  WP.aload_n (pc2 := 6) (i := 0) rfl (by decide +kernel) rfl <|
  WP.getI (pc2 := 9) rfl (by decide +kernel) zc_12 zSh_37 (by decide) rfl lf_X12_149 rfl rfl <|
  WP.aload_n (pc2 := 10) (i := 0) rfl (by decide +kernel) rfl <|
  WP.getI (pc2 := 13) rfl (by decide +kernel) zc_12 zSh_37 (by decide) rfl lf_X12_152 rfl rfl <|
  WP.imul (pc2 := 14) rfl (by decide +kernel) f19.1 <|
  WP.icmp_ge (pc2 := 17) (off := 13) (tgt := 27) rfl (by decide +kernel) (by decide) (fun h14 => have f15 := f19.2.1 h14
  WP.iconst (pc2 := 28) (x := -1) rfl (by decide +kernel) (by decide) <|
  WP.iret (by decide +kernel) rfl (fun hx => ⟨_, rfl, hx, rfl, f15⟩)) (fun h14 => have f16 := f19.2.2 h14
  WP.iload_n (pc2 := 18) (i := 2) rfl (by decide +kernel) rfl <|
  WP.if_lt (pc2 := 21) (off := 9) (tgt := 27) rfl (by decide +kernel) (by decide) (fun h11 => have f12 := f16.1 h11
  WP.iconst (pc2 := 28) (x := -1) rfl (by decide +kernel) (by decide) <|
  WP.iret (by decide +kernel) rfl (fun hx => ⟨_, rfl, hx, rfl, f12⟩)) (fun h11 => have f13 := f16.2 h11
  WP.iload_n (pc2 := 22) (i := 2) rfl (by decide +kernel) rfl <|
  WP.bipush (pc2 := 24) (x := 8) rfl (by decide +kernel) ⟨by decide +kernel, by decide⟩ <|
  WP.icmp_le (pc2 := 27) (off := 5) (tgt := 29) rfl (by decide +kernel) (by decide) (fun h8 => have f9 := f13.1 h8
  WP.iload_n (pc2 := 30) (i := 2) rfl (by decide +kernel) rfl <|
  WP.tsw (dflt := 114) (lo := 0) (hi' := 8) (offs := #[50, 57, 64, 114, 114, 114, 114, 94, 104]) (len := 50) (by decide +kernel) (fun h7 => ⟨144, by decide, have f20 := f9.1 h7
  WP.aload_n (pc2 := 145) (i := 0) rfl (by decide +kernel) rfl <|
  WP.iload_n (pc2 := 146) (i := 1) rfl (by decide +kernel) rfl <|
  WP.iload_n (pc2 := 147) (i := 2) rfl (by decide +kernel) rfl <|
  WP.iconst (pc2 := 148) (x := 3) rfl (by decide +kernel) (by decide) <|
  WP.isub (pc2 := 149) rfl (by decide +kernel) f20.1 <|
  WP.callV (y := mX12_cell) (index := 225) (pc2 := 152) (y' := mX12_neighbour) (vs := [.inl l1, .inl (l2 - 3)]) rfl (by decide +kernel) okX12_neighbour ⟨by decide, by decide⟩ ⟨lm_X12_225, ivX12_neighbour⟩ zSh_37 zc_12 (Nat.le_of_ble_eq_true rfl) ⟨rfl, rfl⟩ rfl (WP.c0i f20.2 (fun x1 _ f2 =>
  WP.iret (by decide +kernel) rfl (fun hx => ⟨_, rfl, hx, rfl, f2⟩)))⟩) (fun h1 h2 => by
  rcases (show l2 = 0 ∨ l2 = 1 ∨ l2 = 2 ∨ l2 = 3 ∨ l2 = 4 ∨ l2 = 5 ∨ l2 = 6 ∨ l2 = 7 ∨ l2 = 8 by omega) with h7 | h7 | h7 | h7 | h7 | h7 | h7 | h7 | h7
  · exact ⟨_, 80, by rw [h7]; rfl, by decide, have f21 := f9.2.1 h7
    WP.aload_n (pc2 := 81) (i := 0) rfl (by decide +kernel) rfl <|
  WP.getR (pc2 := 84) rfl (by decide +kernel) zc_12 zSh_37 (by decide) rfl lf_X12_20 rfl (rs_37_7 hM) <|
  WP.iload_n (pc2 := 85) (i := 1) rfl (by decide +kernel) rfl <|
  WP.iaload (pc2 := 86) rfl (by decide +kernel) zSh_39 rfl f21.1 rfl <|
  WP.iret (by decide +kernel) rfl (fun hx => ⟨_, rfl, hx, rfl, f21.2⟩)⟩
  · exact ⟨_, 87, by rw [h7]; rfl, by decide, have f22 := f9.2.2.1 h7
    WP.aload_n (pc2 := 88) (i := 0) rfl (by decide +kernel) rfl <|
  WP.getR (pc2 := 91) rfl (by decide +kernel) zc_12 zSh_37 (by decide) rfl lf_X12_24 rfl (rs_37_8 hM) <|
  WP.iload_n (pc2 := 92) (i := 1) rfl (by decide +kernel) rfl <|
  WP.iaload (pc2 := 93) rfl (by decide +kernel) zSh_40 rfl f22.1 rfl <|
  WP.iret (by decide +kernel) rfl (fun hx => ⟨_, rfl, hx, rfl, f22.2⟩)⟩
  · exact ⟨_, 94, by rw [h7]; rfl, by decide, have f23 := f9.2.2.2.1 h7
    WP.iconst (pc2 := 95) (x := 0) rfl (by decide +kernel) (by decide) <|
  WP.istore_n (pc2 := 96) (i := 3) rfl (by decide +kernel) (by decide) <|
  f23⟩
  · exact ⟨_, 144, by rw [h7]; rfl, by decide, have f24 := f9.2.2.2.2.1 h7
    WP.aload_n (pc2 := 145) (i := 0) rfl (by decide +kernel) rfl <|
  WP.iload_n (pc2 := 146) (i := 1) rfl (by decide +kernel) rfl <|
  WP.iload_n (pc2 := 147) (i := 2) rfl (by decide +kernel) rfl <|
  WP.iconst (pc2 := 148) (x := 3) rfl (by decide +kernel) (by decide) <|
  WP.isub (pc2 := 149) rfl (by decide +kernel) f24.1 <|
  WP.callV (y := mX12_cell) (index := 225) (pc2 := 152) (y' := mX12_neighbour) (vs := [.inl l1, .inl (l2 - 3)]) rfl (by decide +kernel) okX12_neighbour ⟨by decide, by decide⟩ ⟨lm_X12_225, ivX12_neighbour⟩ zSh_37 zc_12 (Nat.le_of_ble_eq_true rfl) ⟨rfl, rfl⟩ rfl (WP.c0i f24.2 (fun x1 _ f2 =>
  WP.iret (by decide +kernel) rfl (fun hx => ⟨_, rfl, hx, rfl, f2⟩)))⟩
  · exact ⟨_, 144, by rw [h7]; rfl, by decide, have f25 := f9.2.2.2.2.2.1 h7
    WP.aload_n (pc2 := 145) (i := 0) rfl (by decide +kernel) rfl <|
  WP.iload_n (pc2 := 146) (i := 1) rfl (by decide +kernel) rfl <|
  WP.iload_n (pc2 := 147) (i := 2) rfl (by decide +kernel) rfl <|
  WP.iconst (pc2 := 148) (x := 3) rfl (by decide +kernel) (by decide) <|
  WP.isub (pc2 := 149) rfl (by decide +kernel) f25.1 <|
  WP.callV (y := mX12_cell) (index := 225) (pc2 := 152) (y' := mX12_neighbour) (vs := [.inl l1, .inl (l2 - 3)]) rfl (by decide +kernel) okX12_neighbour ⟨by decide, by decide⟩ ⟨lm_X12_225, ivX12_neighbour⟩ zSh_37 zc_12 (Nat.le_of_ble_eq_true rfl) ⟨rfl, rfl⟩ rfl (WP.c0i f25.2 (fun x1 _ f2 =>
  WP.iret (by decide +kernel) rfl (fun hx => ⟨_, rfl, hx, rfl, f2⟩)))⟩
  · exact ⟨_, 144, by rw [h7]; rfl, by decide, have f26 := f9.2.2.2.2.2.2.1 h7
    WP.aload_n (pc2 := 145) (i := 0) rfl (by decide +kernel) rfl <|
  WP.iload_n (pc2 := 146) (i := 1) rfl (by decide +kernel) rfl <|
  WP.iload_n (pc2 := 147) (i := 2) rfl (by decide +kernel) rfl <|
  WP.iconst (pc2 := 148) (x := 3) rfl (by decide +kernel) (by decide) <|
  WP.isub (pc2 := 149) rfl (by decide +kernel) f26.1 <|
  WP.callV (y := mX12_cell) (index := 225) (pc2 := 152) (y' := mX12_neighbour) (vs := [.inl l1, .inl (l2 - 3)]) rfl (by decide +kernel) okX12_neighbour ⟨by decide, by decide⟩ ⟨lm_X12_225, ivX12_neighbour⟩ zSh_37 zc_12 (Nat.le_of_ble_eq_true rfl) ⟨rfl, rfl⟩ rfl (WP.c0i f26.2 (fun x1 _ f2 =>
  WP.iret (by decide +kernel) rfl (fun hx => ⟨_, rfl, hx, rfl, f2⟩)))⟩
  · exact ⟨_, 144, by rw [h7]; rfl, by decide, have f27 := f9.2.2.2.2.2.2.2.1 h7
    WP.aload_n (pc2 := 145) (i := 0) rfl (by decide +kernel) rfl <|
  WP.iload_n (pc2 := 146) (i := 1) rfl (by decide +kernel) rfl <|
  WP.iload_n (pc2 := 147) (i := 2) rfl (by decide +kernel) rfl <|
  WP.iconst (pc2 := 148) (x := 3) rfl (by decide +kernel) (by decide) <|
  WP.isub (pc2 := 149) rfl (by decide +kernel) f27.1 <|
  WP.callV (y := mX12_cell) (index := 225) (pc2 := 152) (y' := mX12_neighbour) (vs := [.inl l1, .inl (l2 - 3)]) rfl (by decide +kernel) okX12_neighbour ⟨by decide, by decide⟩ ⟨lm_X12_225, ivX12_neighbour⟩ zSh_37 zc_12 (Nat.le_of_ble_eq_true rfl) ⟨rfl, rfl⟩ rfl (WP.c0i f27.2 (fun x1 _ f2 =>
  WP.iret (by decide +kernel) rfl (fun hx => ⟨_, rfl, hx, rfl, f2⟩)))⟩
  · exact ⟨_, 124, by rw [h7]; rfl, by decide, have f28 := f9.2.2.2.2.2.2.2.2.1 h7
    WP.aload_n (pc2 := 125) (i := 0) rfl (by decide +kernel) rfl <|
  WP.iload_n (pc2 := 126) (i := 1) rfl (by decide +kernel) rfl <|
  WP.callV (y := mX12_cell) (index := 273) (pc2 := 129) (y' := mX12_waitFor) (vs := [.inl l1]) rfl (by decide +kernel) okX12_waitFor ⟨by decide, by decide⟩ ⟨lm_X12_273, ivX12_waitFor⟩ zSh_37 zc_12 (Nat.le_of_ble_eq_true rfl) ⟨rfl, rfl⟩ rfl (WP.c1v f28 (fun hi3 f4 =>
  WP.aload_n (pc2 := 130) (i := 0) rfl (by decide +kernel) rfl <|
  WP.getI (pc2 := 133) rfl (by decide +kernel) zc_12 zSh_37 (by decide) rfl lf_X12_254 rfl rfl <|
  WP.iret (by decide +kernel) rfl (fun hx => ⟨_, rfl, hx, rfl, f4⟩)))⟩
  · exact ⟨_, 134, by rw [h7]; rfl, by decide, have f29 := f9.2.2.2.2.2.2.2.2.2 h7
    WP.aload_n (pc2 := 135) (i := 0) rfl (by decide +kernel) rfl <|
  WP.iload_n (pc2 := 136) (i := 1) rfl (by decide +kernel) rfl <|
  WP.callV (y := mX12_cell) (index := 273) (pc2 := 139) (y' := mX12_waitFor) (vs := [.inl l1]) rfl (by decide +kernel) okX12_waitFor ⟨by decide, by decide⟩ ⟨lm_X12_273, ivX12_waitFor⟩ zSh_37 zc_12 (Nat.le_of_ble_eq_true rfl) ⟨rfl, rfl⟩ rfl (WP.c1v f29 (fun hi5 f6 =>
  WP.aload_n (pc2 := 140) (i := 0) rfl (by decide +kernel) rfl <|
  WP.getI (pc2 := 143) rfl (by decide +kernel) zc_12 zSh_37 (by decide) rfl lf_X12_257 rfl rfl <|
  WP.iret (by decide +kernel) rfl (fun hx => ⟨_, rfl, hx, rfl, f6⟩)))⟩
  )) (fun h8 => have f10 := f13.2 h8
  WP.iconst (pc2 := 28) (x := -1) rfl (by decide +kernel) (by decide) <|
  WP.iret (by decide +kernel) rfl (fun hx => ⟨_, rfl, hx, rfl, f10⟩))))))

set_option maxRecDepth 100000 in
set_option maxHeartbeats 4000000 in
theorem GX12_cell_96 {hi : zI} {hr : zR} {P : Int → zI → Prop} (hM : RSm hr) (l1 : Int) (l2 : Int) (a3 : Int) 
    (F : (hi 37 0 10 ≤ a3 → (P (-1) hi)) ∧ (a3 < hi 37 0 10 → ((0 ≤ a3 ∧ a3 < 6) ∧ ((hi 67 0 a3 ≠ l1 → ((zInR (a3 + 1)) ∧ (WP mX12_cell 96 [some (.inr (some (37, 0))), some (.inl l1), some (.inl l2), some (.inl (a3 + 1))] [] hi hr (zQ1i hr P)))) ∧ (hi 67 0 a3 = l1 → P a3 hi))))) :
    WP mX12_cell 96 [some (.inr (some (37, 0))), some (.inl l1), some (.inl l2), some (.inl a3)] [] hi hr (zQ1i hr P) :=
  WP.iload_n (pc2 := 97) (i := 3) rfl (by decide +kernel) rfl <|
  WP.aload_n (pc2 := 98) (i := 0) rfl (by decide +kernel) rfl <|
  WP.getI (pc2 := 101) rfl (by decide +kernel) zc_12 zSh_37 (by decide) rfl lf_X12_195 rfl rfl <|
  WP.icmp_ge (pc2 := 104) (off := 21) (tgt := 122) rfl (by decide +kernel) (by decide) (fun h33 => have f34 := F.1 h33
  WP.iconst (pc2 := 123) (x := -1) rfl (by decide +kernel) (by decide) <|
  WP.iret (by decide +kernel) rfl (fun hx => ⟨_, rfl, hx, rfl, f34⟩)) (fun h33 => have f35 := F.2 h33
  WP.aload_n (pc2 := 105) (i := 0) rfl (by decide +kernel) rfl <|
  WP.getR (pc2 := 108) rfl (by decide +kernel) zc_12 zSh_37 (by decide) rfl lf_X12_107 rfl (rs_37_46 hM) <|
  WP.iload_n (pc2 := 109) (i := 3) rfl (by decide +kernel) rfl <|
  WP.iaload (pc2 := 110) rfl (by decide +kernel) zSh_67 rfl f35.1 rfl <|
  WP.iload_n (pc2 := 111) (i := 1) rfl (by decide +kernel) rfl <|
  WP.icmp_ne (pc2 := 114) (off := 5) (tgt := 116) rfl (by decide +kernel) (by decide) (fun h30 => have f31 := f35.2.1 h30
  WP.iinc (pc2 := 119) (i := 3) (d := 1) rfl (by decide +kernel) rfl f31.1 <|
  WP.goto (off := -23) (tgt := 96) (by decide +kernel) (by decide) <|
  f31.2) (fun h30 => have f32 := f35.2.2 h30
  WP.iload_n (pc2 := 115) (i := 3) rfl (by decide +kernel) rfl <|
  WP.iret (by decide +kernel) rfl (fun hx => ⟨_, rfl, hx, rfl, f32⟩)))
set_option maxRecDepth 100000 in
set_option maxHeartbeats 4000000 in
theorem GX12_vehicle {hi : zI} {hr : zR} {P : Int → Prop} (hM : RSm hr) (l1 : Int) (l2 : Int) 
    (F : (l1 < 0 → (P (-1))) ∧ (0 ≤ l1 → ((l1 < hi 37 0 10 → (((l2 < 0 ∨ 13 < l2) → (P (-1))) ∧ (l2 = 0 → ((0 ≤ l1 ∧ l1 < 6) ∧ (P (hi 67 0 l1)))) ∧ (l2 = 1 → ((0 ≤ l1 ∧ l1 < 6) ∧ (P (hi 68 0 l1)))) ∧ (l2 = 2 → ((0 ≤ l1 ∧ l1 < 6) ∧ (P (hi 69 0 l1)))) ∧ (l2 = 3 → ((0 ≤ l1 ∧ l1 < 6) ∧ (P (hi 70 0 l1)))) ∧ (l2 = 4 → ((0 ≤ l1 ∧ l1 < 6) ∧ ((hi 71 0 l1 = 0 → P 0) ∧ (hi 71 0 l1 ≠ 0 → P 1)))) ∧ (l2 = 5 → ((0 ≤ l1 ∧ l1 < 6) ∧ ((hi 73 0 l1 < 10 → P 0) ∧ (10 ≤ hi 73 0 l1 → P 1)))) ∧ (l2 = 6 → ((0 ≤ l1 ∧ l1 < 6) ∧ (P (hi 73 0 l1)))) ∧ (l2 = 7 → ((0 ≤ l1 ∧ l1 < 6) ∧ ((hi 74 0 l1 = 0 → P 0) ∧ (hi 74 0 l1 ≠ 0 → P 1)))) ∧ (l2 = 8 → ((0 ≤ l1 ∧ l1 < 6) ∧ (P (hi 75 0 l1)))) ∧ (l2 = 9 → ((0 ≤ l1 ∧ l1 < 6) ∧ (P (hi 76 0 l1)))) ∧ (l2 = 10 → ((0 ≤ l1 ∧ l1 < 6) ∧ (P (hi 77 0 l1)))) ∧ (l2 = 11 → ((0 ≤ l1 ∧ l1 < 6) ∧ (P (hi 78 0 l1)))) ∧ (l2 = 12 → ((0 ≤ l1 ∧ l1 < 6) ∧ (P (hi 54 0 l1)))) ∧ (l2 = 13 → ((0 ≤ l1 ∧ l1 < 6) ∧ (P (hi 79 0 l1)))))) ∧ (hi 37 0 10 ≤ l1 → (P (-1)))))) :
    W0i mX12_vehicle [.inr (some (37, 0)), .inl l1, .inl l2] hi hr P :=
  WPm.of rfl (show WP mX12_vehicle 0 [some (.inr (some (37, 0))), some (.inl l1), some (.inl l2)] [] hi hr (zQ0i hi hr P) from
  WP.iload_n (pc2 := 1) (i := 1) rfl (by decide +kernel) rfl <|
  WP.if_lt (pc2 := 4) (off := 11) (tgt := 12) rfl (by decide +kernel) (by decide) (fun h14 => have f15 := F.1 h14
  WP.iconst (pc2 := 13) (x := -1) rfl (by decide +kernel) (by decide) <|
  WP.iret (by decide +kernel) rfl (fun hx => ⟨_, rfl, hx, rfl, rfl, f15⟩)) (fun h14 => have f16 := F.2 h14
  WP.iload_n (pc2 := 5) (i := 1) rfl (by decide +kernel) rfl <|
  WP.aload_n (pc2 := 6) (i := 0) rfl (by decide +kernel) rfl <|
  WP.getI (pc2 := 9) rfl (by decide +kernel) zc_12 zSh_37 (by decide) rfl lf_X12_195 rfl rfl <|
  WP.icmp_lt (pc2 := 12) (off := 5) (tgt := 14) rfl (by decide +kernel) (by decide) (fun h11 => have f12 := f16.1 h11
  WP.iload_n (pc2 := 15) (i := 2) rfl (by decide +kernel) rfl <|
  WP.tsw (dflt := 193) (lo := 0) (hi' := 13) (offs := #[69, 76, 83, 90, 97, 112, 129, 136, 151, 158, 165, 172, 179, 186]) (len := 69) (by decide +kernel) (fun h10 => ⟨208, by decide, have f17 := f12.1 h10
  WP.iconst (pc2 := 209) (x := -1) rfl (by decide +kernel) (by decide) <|
  WP.iret (by decide +kernel) rfl (fun hx => ⟨_, rfl, hx, rfl, rfl, f17⟩)⟩) (fun h1 h2 => by
  rcases (show l2 = 0 ∨ l2 = 1 ∨ l2 = 2 ∨ l2 = 3 ∨ l2 = 4 ∨ l2 = 5 ∨ l2 = 6 ∨ l2 = 7 ∨ l2 = 8 ∨ l2 = 9 ∨ l2 = 10 ∨ l2 = 11 ∨ l2 = 12 ∨ l2 = 13 by omega) with h10 | h10 | h10 | h10 | h10 | h10 | h10 | h10 | h10 | h10 | h10 | h10 | h10 | h10
  · exact ⟨_, 84, by rw [h10]; rfl, by decide, have f18 := f12.2.1 h10
    WP.aload_n (pc2 := 85) (i := 0) rfl (by decide +kernel) rfl <|
  WP.getR (pc2 := 88) rfl (by decide +kernel) zc_12 zSh_37 (by decide) rfl lf_X12_107 rfl (rs_37_46 hM) <|
  WP.iload_n (pc2 := 89) (i := 1) rfl (by decide +kernel) rfl <|
  WP.iaload (pc2 := 90) rfl (by decide +kernel) zSh_67 rfl f18.1 rfl <|
  WP.iret (by decide +kernel) rfl (fun hx => ⟨_, rfl, hx, rfl, rfl, f18.2⟩)⟩
  · exact ⟨_, 91, by rw [h10]; rfl, by decide, have f19 := f12.2.2.1 h10
    WP.aload_n (pc2 := 92) (i := 0) rfl (by decide +kernel) rfl <|
  WP.getR (pc2 := 95) rfl (by decide +kernel) zc_12 zSh_37 (by decide) rfl lf_X12_110 rfl (rs_37_47 hM) <|
  WP.iload_n (pc2 := 96) (i := 1) rfl (by decide +kernel) rfl <|
  WP.iaload (pc2 := 97) rfl (by decide +kernel) zSh_68 rfl f19.1 rfl <|
  WP.iret (by decide +kernel) rfl (fun hx => ⟨_, rfl, hx, rfl, rfl, f19.2⟩)⟩
  · exact ⟨_, 98, by rw [h10]; rfl, by decide, have f20 := f12.2.2.2.1 h10
    WP.aload_n (pc2 := 99) (i := 0) rfl (by decide +kernel) rfl <|
  WP.getR (pc2 := 102) rfl (by decide +kernel) zc_12 zSh_37 (by decide) rfl lf_X12_113 rfl (rs_37_48 hM) <|
  WP.iload_n (pc2 := 103) (i := 1) rfl (by decide +kernel) rfl <|
  WP.iaload (pc2 := 104) rfl (by decide +kernel) zSh_69 rfl f20.1 rfl <|
  WP.iret (by decide +kernel) rfl (fun hx => ⟨_, rfl, hx, rfl, rfl, f20.2⟩)⟩
  · exact ⟨_, 105, by rw [h10]; rfl, by decide, have f21 := f12.2.2.2.2.1 h10
    WP.aload_n (pc2 := 106) (i := 0) rfl (by decide +kernel) rfl <|
  WP.getR (pc2 := 109) rfl (by decide +kernel) zc_12 zSh_37 (by decide) rfl lf_X12_116 rfl (rs_37_49 hM) <|
  WP.iload_n (pc2 := 110) (i := 1) rfl (by decide +kernel) rfl <|
  WP.iaload (pc2 := 111) rfl (by decide +kernel) zSh_70 rfl f21.1 rfl <|
  WP.iret (by decide +kernel) rfl (fun hx => ⟨_, rfl, hx, rfl, rfl, f21.2⟩)⟩
  · exact ⟨_, 112, by rw [h10]; rfl, by decide, have f22 := f12.2.2.2.2.2.1 h10
    WP.aload_n (pc2 := 113) (i := 0) rfl (by decide +kernel) rfl <|
  WP.getR (pc2 := 116) rfl (by decide +kernel) zc_12 zSh_37 (by decide) rfl lf_X12_119 rfl (rs_37_50 hM) <|
  WP.iload_n (pc2 := 117) (i := 1) rfl (by decide +kernel) rfl <|
  WP.baload (pc2 := 118) rfl (by decide +kernel) zSh_71 (by decide) rfl f22.1 rfl <|
  WP.if_eq (pc2 := 121) (off := 7) (tgt := 125) rfl (by decide +kernel) (by decide) (fun h1 => have f2 := f22.2.1 h1
  WP.iconst (pc2 := 126) (x := 0) rfl (by decide +kernel) (by decide) <|
  WP.iret (by decide +kernel) rfl (fun hx => ⟨_, rfl, hx, rfl, rfl, f2⟩)) (fun h1 => have f3 := f22.2.2 h1
  WP.iconst (pc2 := 122) (x := 1) rfl (by decide +kernel) (by decide) <|
  WP.goto (off := 4) (tgt := 126) (by decide +kernel) (by decide) <|
  WP.iret (by decide +kernel) rfl (fun hx => ⟨_, rfl, hx, rfl, rfl, f3⟩))⟩
  · exact ⟨_, 127, by rw [h10]; rfl, by decide, have f23 := f12.2.2.2.2.2.2.1 h10
    WP.aload_n (pc2 := 128) (i := 0) rfl (by decide +kernel) rfl <|
  WP.getR (pc2 := 131) rfl (by decide +kernel) zc_12 zSh_37 (by decide) rfl lf_X12_125 rfl (rs_37_52 hM) <|
  WP.iload_n (pc2 := 132) (i := 1) rfl (by decide +kernel) rfl <|
  WP.iaload (pc2 := 133) rfl (by decide +kernel) zSh_73 rfl f23.1 rfl <|
  WP.bipush (pc2 := 135) (x := 10) rfl (by decide +kernel) ⟨by decide +kernel, by decide⟩ <|
  WP.icmp_lt (pc2 := 138) (off := 7) (tgt := 142) rfl (by decide +kernel) (by decide) (fun h4 => have f5 := f23.2.1 h4
  WP.iconst (pc2 := 143) (x := 0) rfl (by decide +kernel) (by decide) <|
  WP.iret (by decide +kernel) rfl (fun hx => ⟨_, rfl, hx, rfl, rfl, f5⟩)) (fun h4 => have f6 := f23.2.2 h4
  WP.iconst (pc2 := 139) (x := 1) rfl (by decide +kernel) (by decide) <|
  WP.goto (off := 4) (tgt := 143) (by decide +kernel) (by decide) <|
  WP.iret (by decide +kernel) rfl (fun hx => ⟨_, rfl, hx, rfl, rfl, f6⟩))⟩
  · exact ⟨_, 144, by rw [h10]; rfl, by decide, have f24 := f12.2.2.2.2.2.2.2.1 h10
    WP.aload_n (pc2 := 145) (i := 0) rfl (by decide +kernel) rfl <|
  WP.getR (pc2 := 148) rfl (by decide +kernel) zc_12 zSh_37 (by decide) rfl lf_X12_125 rfl (rs_37_52 hM) <|
  WP.iload_n (pc2 := 149) (i := 1) rfl (by decide +kernel) rfl <|
  WP.iaload (pc2 := 150) rfl (by decide +kernel) zSh_73 rfl f24.1 rfl <|
  WP.iret (by decide +kernel) rfl (fun hx => ⟨_, rfl, hx, rfl, rfl, f24.2⟩)⟩
  · exact ⟨_, 151, by rw [h10]; rfl, by decide, have f25 := f12.2.2.2.2.2.2.2.2.1 h10
    WP.aload_n (pc2 := 152) (i := 0) rfl (by decide +kernel) rfl <|
  WP.getR (pc2 := 155) rfl (by decide +kernel) zc_12 zSh_37 (by decide) rfl lf_X12_128 rfl (rs_37_54 hM) <|
  WP.iload_n (pc2 := 156) (i := 1) rfl (by decide +kernel) rfl <|
  WP.baload (pc2 := 157) rfl (by decide +kernel) zSh_74 (by decide) rfl f25.1 rfl <|
  WP.if_eq (pc2 := 160) (off := 7) (tgt := 164) rfl (by decide +kernel) (by decide) (fun h7 => have f8 := f25.2.1 h7
  WP.iconst (pc2 := 165) (x := 0) rfl (by decide +kernel) (by decide) <|
  WP.iret (by decide +kernel) rfl (fun hx => ⟨_, rfl, hx, rfl, rfl, f8⟩)) (fun h7 => have f9 := f25.2.2 h7
  WP.iconst (pc2 := 161) (x := 1) rfl (by decide +kernel) (by decide) <|
  WP.goto (off := 4) (tgt := 165) (by decide +kernel) (by decide) <|
  WP.iret (by decide +kernel) rfl (fun hx => ⟨_, rfl, hx, rfl, rfl, f9⟩))⟩
  · exact ⟨_, 166, by rw [h10]; rfl, by decide, have f26 := f12.2.2.2.2.2.2.2.2.2.1 h10
    WP.aload_n (pc2 := 167) (i := 0) rfl (by decide +kernel) rfl <|
  WP.getR (pc2 := 170) rfl (by decide +kernel) zc_12 zSh_37 (by decide) rfl lf_X12_131 rfl (rs_37_55 hM) <|
  WP.iload_n (pc2 := 171) (i := 1) rfl (by decide +kernel) rfl <|
  WP.iaload (pc2 := 172) rfl (by decide +kernel) zSh_75 rfl f26.1 rfl <|
  WP.iret (by decide +kernel) rfl (fun hx => ⟨_, rfl, hx, rfl, rfl, f26.2⟩)⟩
  · exact ⟨_, 173, by rw [h10]; rfl, by decide, have f27 := f12.2.2.2.2.2.2.2.2.2.2.1 h10
    WP.aload_n (pc2 := 174) (i := 0) rfl (by decide +kernel) rfl <|
  WP.getR (pc2 := 177) rfl (by decide +kernel) zc_12 zSh_37 (by decide) rfl lf_X12_134 rfl (rs_37_56 hM) <|
  WP.iload_n (pc2 := 178) (i := 1) rfl (by decide +kernel) rfl <|
  WP.iaload (pc2 := 179) rfl (by decide +kernel) zSh_76 rfl f27.1 rfl <|
  WP.iret (by decide +kernel) rfl (fun hx => ⟨_, rfl, hx, rfl, rfl, f27.2⟩)⟩
  · exact ⟨_, 180, by rw [h10]; rfl, by decide, have f28 := f12.2.2.2.2.2.2.2.2.2.2.2.1 h10
    WP.aload_n (pc2 := 181) (i := 0) rfl (by decide +kernel) rfl <|
  WP.getR (pc2 := 184) rfl (by decide +kernel) zc_12 zSh_37 (by decide) rfl lf_X12_137 rfl (rs_37_57 hM) <|
  WP.iload_n (pc2 := 185) (i := 1) rfl (by decide +kernel) rfl <|
  WP.iaload (pc2 := 186) rfl (by decide +kernel) zSh_77 rfl f28.1 rfl <|
  WP.iret (by decide +kernel) rfl (fun hx => ⟨_, rfl, hx, rfl, rfl, f28.2⟩)⟩
  · exact ⟨_, 187, by rw [h10]; rfl, by decide, have f29 := f12.2.2.2.2.2.2.2.2.2.2.2.2.1 h10
    WP.aload_n (pc2 := 188) (i := 0) rfl (by decide +kernel) rfl <|
  WP.getR (pc2 := 191) rfl (by decide +kernel) zc_12 zSh_37 (by decide) rfl lf_X12_140 rfl (rs_37_58 hM) <|
  WP.iload_n (pc2 := 192) (i := 1) rfl (by decide +kernel) rfl <|
  WP.iaload (pc2 := 193) rfl (by decide +kernel) zSh_78 rfl f29.1 rfl <|
  WP.iret (by decide +kernel) rfl (fun hx => ⟨_, rfl, hx, rfl, rfl, f29.2⟩)⟩
  · exact ⟨_, 194, by rw [h10]; rfl, by decide, have f30 := f12.2.2.2.2.2.2.2.2.2.2.2.2.2.1 h10
    WP.aload_n (pc2 := 195) (i := 0) rfl (by decide +kernel) rfl <|
  WP.getR (pc2 := 198) rfl (by decide +kernel) zc_12 zSh_37 (by decide) rfl lf_X12_67 rfl (rs_37_30 hM) <|
  WP.iload_n (pc2 := 199) (i := 1) rfl (by decide +kernel) rfl <|
  WP.iaload (pc2 := 200) rfl (by decide +kernel) zSh_54 rfl f30.1 rfl <|
  WP.iret (by decide +kernel) rfl (fun hx => ⟨_, rfl, hx, rfl, rfl, f30.2⟩)⟩
  · exact ⟨_, 201, by rw [h10]; rfl, by decide, have f31 := f12.2.2.2.2.2.2.2.2.2.2.2.2.2.2 h10
    WP.aload_n (pc2 := 202) (i := 0) rfl (by decide +kernel) rfl <|
  WP.getR (pc2 := 205) rfl (by decide +kernel) zc_12 zSh_37 (by decide) rfl lf_X12_143 rfl (rs_37_59 hM) <|
  WP.iload_n (pc2 := 206) (i := 1) rfl (by decide +kernel) rfl <|
  WP.iaload (pc2 := 207) rfl (by decide +kernel) zSh_79 rfl f31.1 rfl <|
  WP.iret (by decide +kernel) rfl (fun hx => ⟨_, rfl, hx, rfl, rfl, f31.2⟩)⟩
  )) (fun h11 => have f13 := f16.2 h11
  WP.iconst (pc2 := 13) (x := -1) rfl (by decide +kernel) (by decide) <|
  WP.iret (by decide +kernel) rfl (fun hx => ⟨_, rfl, hx, rfl, rfl, f13⟩))))
set_option maxRecDepth 100000 in
set_option maxHeartbeats 4000000 in
theorem GX12_trip {hi : zI} {hr : zR} {P : Int → Prop} (l1 : Int) (l2 : Int) 
    (F : (l1 < 0 → (P (-1))) ∧ (0 ≤ l1 → ((hi 37 0 10 ≤ l1 → (P (-1))) ∧ (l1 < hi 37 0 10 → ((0 ≤ l2 → (W0i mX12_tripAt [.inr (some (37, 0)), .inl l1, .inl l2] hi hr (fun (x1 : Int) => P x1))) ∧ (l2 < 0 → (P (-1)))))))) :
    W0i mX12_trip [.inr (some (37, 0)), .inl l1, .inl l2] hi hr P :=
  WPm.of rfl (show WP mX12_trip 0 [some (.inr (some (37, 0))), some (.inl l1), some (.inl l2)] [] hi hr (zQ0i hi hr P) from
  WP.iload_n (pc2 := 1) (i := 1) rfl (by decide +kernel) rfl <|
  WP.if_lt (pc2 := 4) (off := 15) (tgt := 16) rfl (by decide +kernel) (by decide) (fun h9 => have f10 := F.1 h9
  WP.iconst (pc2 := 17) (x := -1) rfl (by decide +kernel) (by decide) <|
  WP.goto (off := 9) (tgt := 26) (by decide +kernel) (by decide) <|
  WP.iret (by decide +kernel) rfl (fun hx => ⟨_, rfl, hx, rfl, rfl, f10⟩)) (fun h9 => have f11 := F.2 h9
  WP.iload_n (pc2 := 5) (i := 1) rfl (by decide +kernel) rfl <|
  WP.aload_n (pc2 := 6) (i := 0) rfl (by decide +kernel) rfl <|
  WP.getI (pc2 := 9) rfl (by decide +kernel) zc_12 zSh_37 (by decide) rfl lf_X12_195 rfl rfl <|
  WP.icmp_ge (pc2 := 12) (off := 7) (tgt := 16) rfl (by decide +kernel) (by decide) (fun h6 => have f7 := f11.1 h6
  WP.iconst (pc2 := 17) (x := -1) rfl (by decide +kernel) (by decide) <|
  WP.goto (off := 9) (tgt := 26) (by decide +kernel) (by decide) <|
  WP.iret (by decide +kernel) rfl (fun hx => ⟨_, rfl, hx, rfl, rfl, f7⟩)) (fun h6 => have f8 := f11.2 h6
  WP.iload_n (pc2 := 13) (i := 2) rfl (by decide +kernel) rfl <|
  WP.if_ge (pc2 := 16) (off := 7) (tgt := 20) rfl (by decide +kernel) (by decide) (fun h3 => have f4 := f8.1 h3
  WP.aload_n (pc2 := 21) (i := 0) rfl (by decide +kernel) rfl <|
  WP.iload_n (pc2 := 22) (i := 1) rfl (by decide +kernel) rfl <|
  WP.iload_n (pc2 := 23) (i := 2) rfl (by decide +kernel) rfl <|
  WP.callV (y := mX12_trip) (index := 222) (pc2 := 26) (y' := mX12_tripAt) (vs := [.inl l1, .inl l2]) rfl (by decide +kernel) okX12_tripAt ⟨by decide, by decide⟩ ⟨lm_X12_222, ivX12_tripAt⟩ zSh_37 zc_12 (Nat.le_of_ble_eq_true rfl) ⟨rfl, rfl⟩ rfl (WP.c0i f4 (fun x1 _ f2 =>
  WP.iret (by decide +kernel) rfl (fun hx => ⟨_, rfl, hx, rfl, rfl, f2⟩)))) (fun h3 => have f5 := f8.2 h3
  WP.iconst (pc2 := 17) (x := -1) rfl (by decide +kernel) (by decide) <|
  WP.goto (off := 9) (tgt := 26) (by decide +kernel) (by decide) <|
  WP.iret (by decide +kernel) rfl (fun hx => ⟨_, rfl, hx, rfl, rfl, f5⟩)))))
set_option maxRecDepth 100000 in
set_option maxHeartbeats 4000000 in
theorem GX12_plan {hi : zI} {hr : zR} {P : Int → Prop} (hM : RSm hr) (l1 : Int) (l2 : Int) (l3 : Int) 
    (F : (l1 < 0 → (P (-1))) ∧ (0 ≤ l1 → ((hi 37 0 10 ≤ l1 → (P (-1))) ∧ (l1 < hi 37 0 10 → ((0 ≤ l1 ∧ l1 < 6) ∧ ((hi 77 0 l1 ≠ 0 → ((l2 < 1 → (((l3 < 0 ∨ 3 < l3) → (P (-1))) ∧ (l3 = 0 → ((0 ≤ l1 ∧ l1 < 6) ∧ (P (hi 52 0 l1)))) ∧ (l3 = 1 → ((0 ≤ l1 ∧ l1 < 6) ∧ (P (hi 53 0 l1)))) ∧ (l3 = 2 → (P (-1))) ∧ (l3 = 3 → (P (-1))))) ∧ (1 ≤ l2 → ((0 ≤ l1 ∧ l1 < 6) ∧ ((hi 54 0 l1 < l2 → (((l3 < 0 ∨ 3 < l3) → (P (-1))) ∧ (l3 = 0 → ((0 ≤ l1 ∧ l1 < 6) ∧ (P (hi 52 0 l1)))) ∧ (l3 = 1 → ((0 ≤ l1 ∧ l1 < 6) ∧ (P (hi 53 0 l1)))) ∧ (l3 = 2 → (P (-1))) ∧ (l3 = 3 → (P (-1))))) ∧ (l2 ≤ hi 54 0 l1 → (((l3 < 0 ∨ 3 < l3) → (P (-1))) ∧ (l3 = 0 → ((0 ≤ l1 ∧ l1 < 6) ∧ (P (hi 52 0 l1)))) ∧ (l3 = 1 → ((0 ≤ l1 ∧ l1 < 6) ∧ (P (hi 53 0 l1)))) ∧ (l3 = 2 → ((zInR (301 * l1)) ∧ ((zInR ((301 * l1) + l2)) ∧ ((0 ≤ (301 * l1) + l2 ∧ (301 * l1) + l2 < 1806) ∧ (P (hi 55 0 ((301 * l1) + l2))))))) ∧ (l3 = 3 → ((zInR (301 * l1)) ∧ ((zInR ((301 * l1) + l2)) ∧ ((0 ≤ (301 * l1) + l2 ∧ (301 * l1) + l2 < 1806) ∧ (P (hi 56 0 ((301 * l1) + l2)))))))))))))) ∧ (hi 77 0 l1 = 0 → (P (-1))))))))) :
    W0i mX12_plan [.inr (some (37, 0)), .inl l1, .inl l2, .inl l3] hi hr P :=
  WPm.of rfl (show WP mX12_plan 0 [some (.inr (some (37, 0))), some (.inl l1), some (.inl l2), some (.inl l3), none] [] hi hr (zQ0i hi hr P) from
  WP.iload_n (pc2 := 1) (i := 1) rfl (by decide +kernel) rfl <|
  WP.if_lt (pc2 := 4) (off := 20) (tgt := 21) rfl (by decide +kernel) (by decide) (fun h16 => have f17 := F.1 h16
  WP.iconst (pc2 := 22) (x := -1) rfl (by decide +kernel) (by decide) <|
  WP.iret (by decide +kernel) rfl (fun hx => ⟨_, rfl, hx, rfl, rfl, f17⟩)) (fun h16 => have f18 := F.2 h16
  WP.iload_n (pc2 := 5) (i := 1) rfl (by decide +kernel) rfl <|
  WP.aload_n (pc2 := 6) (i := 0) rfl (by decide +kernel) rfl <|
  WP.getI (pc2 := 9) rfl (by decide +kernel) zc_12 zSh_37 (by decide) rfl lf_X12_195 rfl rfl <|
  WP.icmp_ge (pc2 := 12) (off := 12) (tgt := 21) rfl (by decide +kernel) (by decide) (fun h13 => have f14 := f18.1 h13
  WP.iconst (pc2 := 22) (x := -1) rfl (by decide +kernel) (by decide) <|
  WP.iret (by decide +kernel) rfl (fun hx => ⟨_, rfl, hx, rfl, rfl, f14⟩)) (fun h13 => have f15 := f18.2 h13
  WP.aload_n (pc2 := 13) (i := 0) rfl (by decide +kernel) rfl <|
  WP.getR (pc2 := 16) rfl (by decide +kernel) zc_12 zSh_37 (by decide) rfl lf_X12_137 rfl (rs_37_57 hM) <|
  WP.iload_n (pc2 := 17) (i := 1) rfl (by decide +kernel) rfl <|
  WP.iaload (pc2 := 18) rfl (by decide +kernel) zSh_77 rfl f15.1 rfl <|
  WP.if_ne (pc2 := 21) (off := 5) (tgt := 23) rfl (by decide +kernel) (by decide) (fun h10 => have f11 := f15.2.1 h10
  WP.iload_n (pc2 := 24) (i := 2) rfl (by decide +kernel) rfl <|
  WP.iconst (pc2 := 25) (x := 1) rfl (by decide +kernel) (by decide) <|
  WP.icmp_lt (pc2 := 28) (off := 17) (tgt := 42) rfl (by decide +kernel) (by decide) (fun h7 => have f8 := f11.1 h7
  WP.iconst (pc2 := 43) (x := 0) rfl (by decide +kernel) (by decide) <|
  WP.istore (pc2 := 45) (i := 4) rfl (by decide +kernel) (by decide) <|
  WP.iload_n (pc2 := 46) (i := 3) rfl (by decide +kernel) rfl <|
  WP.tsw (dflt := 88) (lo := 0) (hi' := 3) (offs := #[30, 37, 44, 66]) (len := 30) (by decide +kernel) (fun h1 => ⟨134, by decide, have f19 := f8.1 h1
  WP.iconst (pc2 := 135) (x := -1) rfl (by decide +kernel) (by decide) <|
  WP.iret (by decide +kernel) rfl (fun hx => ⟨_, rfl, hx, rfl, rfl, f19⟩)⟩) (fun h1 h2 => by
  rcases (show l3 = 0 ∨ l3 = 1 ∨ l3 = 2 ∨ l3 = 3 by omega) with h1 | h1 | h1 | h1
  · exact ⟨_, 76, by rw [h1]; rfl, by decide, have f20 := f8.2.1 h1
    WP.aload_n (pc2 := 77) (i := 0) rfl (by decide +kernel) rfl <|
  WP.getR (pc2 := 80) rfl (by decide +kernel) zc_12 zSh_37 (by decide) rfl lf_X12_61 rfl (rs_37_28 hM) <|
  WP.iload_n (pc2 := 81) (i := 1) rfl (by decide +kernel) rfl <|
  WP.iaload (pc2 := 82) rfl (by decide +kernel) zSh_52 rfl f20.1 rfl <|
  WP.iret (by decide +kernel) rfl (fun hx => ⟨_, rfl, hx, rfl, rfl, f20.2⟩)⟩
  · exact ⟨_, 83, by rw [h1]; rfl, by decide, have f21 := f8.2.2.1 h1
    WP.aload_n (pc2 := 84) (i := 0) rfl (by decide +kernel) rfl <|
  WP.getR (pc2 := 87) rfl (by decide +kernel) zc_12 zSh_37 (by decide) rfl lf_X12_64 rfl (rs_37_29 hM) <|
  WP.iload_n (pc2 := 88) (i := 1) rfl (by decide +kernel) rfl <|
  WP.iaload (pc2 := 89) rfl (by decide +kernel) zSh_53 rfl f21.1 rfl <|
  WP.iret (by decide +kernel) rfl (fun hx => ⟨_, rfl, hx, rfl, rfl, f21.2⟩)⟩
  · exact ⟨_, 90, by rw [h1]; rfl, by decide, have f22 := f8.2.2.2.1 h1
    WP.iload (pc2 := 92) (i := 4) rfl (by decide +kernel) rfl <|
  WP.if_eq (pc2 := 95) (off := 18) (tgt := 110) rfl (by decide +kernel) (by decide) (fun _ =>
  WP.iconst (pc2 := 111) (x := -1) rfl (by decide +kernel) (by decide) <|
  WP.iret (by decide +kernel) rfl (fun hx => ⟨_, rfl, hx, rfl, rfl, f22⟩)) (fun h => absurd h (by decide))⟩
  · exact ⟨_, 112, by rw [h1]; rfl, by decide, have f23 := f8.2.2.2.2 h1
    WP.iload (pc2 := 114) (i := 4) rfl (by decide +kernel) rfl <|
  WP.if_eq (pc2 := 117) (off := 18) (tgt := 132) rfl (by decide +kernel) (by decide) (fun _ =>
  WP.iconst (pc2 := 133) (x := -1) rfl (by decide +kernel) (by decide) <|
  WP.iret (by decide +kernel) rfl (fun hx => ⟨_, rfl, hx, rfl, rfl, f23⟩)) (fun h => absurd h (by decide))⟩
  )) (fun h7 => have f9 := f11.2 h7
  WP.iload_n (pc2 := 29) (i := 2) rfl (by decide +kernel) rfl <|
  WP.aload_n (pc2 := 30) (i := 0) rfl (by decide +kernel) rfl <|
  WP.getR (pc2 := 33) rfl (by decide +kernel) zc_12 zSh_37 (by decide) rfl lf_X12_67 rfl (rs_37_30 hM) <|
  WP.iload_n (pc2 := 34) (i := 1) rfl (by decide +kernel) rfl <|
  WP.iaload (pc2 := 35) rfl (by decide +kernel) zSh_54 rfl f9.1 rfl <|
  WP.icmp_gt (pc2 := 38) (off := 7) (tgt := 42) rfl (by decide +kernel) (by decide) (fun h4 => have f5 := f9.2.1 h4
  WP.iconst (pc2 := 43) (x := 0) rfl (by decide +kernel) (by decide) <|
  WP.istore (pc2 := 45) (i := 4) rfl (by decide +kernel) (by decide) <|
  WP.iload_n (pc2 := 46) (i := 3) rfl (by decide +kernel) rfl <|
  WP.tsw (dflt := 88) (lo := 0) (hi' := 3) (offs := #[30, 37, 44, 66]) (len := 30) (by decide +kernel) (fun h2 => ⟨134, by decide, have f24 := f5.1 h2
  WP.iconst (pc2 := 135) (x := -1) rfl (by decide +kernel) (by decide) <|
  WP.iret (by decide +kernel) rfl (fun hx => ⟨_, rfl, hx, rfl, rfl, f24⟩)⟩) (fun h1 h2 => by
  rcases (show l3 = 0 ∨ l3 = 1 ∨ l3 = 2 ∨ l3 = 3 by omega) with h2 | h2 | h2 | h2
  · exact ⟨_, 76, by rw [h2]; rfl, by decide, have f25 := f5.2.1 h2
    WP.aload_n (pc2 := 77) (i := 0) rfl (by decide +kernel) rfl <|
  WP.getR (pc2 := 80) rfl (by decide +kernel) zc_12 zSh_37 (by decide) rfl lf_X12_61 rfl (rs_37_28 hM) <|
  WP.iload_n (pc2 := 81) (i := 1) rfl (by decide +kernel) rfl <|
  WP.iaload (pc2 := 82) rfl (by decide +kernel) zSh_52 rfl f25.1 rfl <|
  WP.iret (by decide +kernel) rfl (fun hx => ⟨_, rfl, hx, rfl, rfl, f25.2⟩)⟩
  · exact ⟨_, 83, by rw [h2]; rfl, by decide, have f26 := f5.2.2.1 h2
    WP.aload_n (pc2 := 84) (i := 0) rfl (by decide +kernel) rfl <|
  WP.getR (pc2 := 87) rfl (by decide +kernel) zc_12 zSh_37 (by decide) rfl lf_X12_64 rfl (rs_37_29 hM) <|
  WP.iload_n (pc2 := 88) (i := 1) rfl (by decide +kernel) rfl <|
  WP.iaload (pc2 := 89) rfl (by decide +kernel) zSh_53 rfl f26.1 rfl <|
  WP.iret (by decide +kernel) rfl (fun hx => ⟨_, rfl, hx, rfl, rfl, f26.2⟩)⟩
  · exact ⟨_, 90, by rw [h2]; rfl, by decide, have f27 := f5.2.2.2.1 h2
    WP.iload (pc2 := 92) (i := 4) rfl (by decide +kernel) rfl <|
  WP.if_eq (pc2 := 95) (off := 18) (tgt := 110) rfl (by decide +kernel) (by decide) (fun _ =>
  WP.iconst (pc2 := 111) (x := -1) rfl (by decide +kernel) (by decide) <|
  WP.iret (by decide +kernel) rfl (fun hx => ⟨_, rfl, hx, rfl, rfl, f27⟩)) (fun h => absurd h (by decide))⟩
  · exact ⟨_, 112, by rw [h2]; rfl, by decide, have f28 := f5.2.2.2.2 h2
    WP.iload (pc2 := 114) (i := 4) rfl (by decide +kernel) rfl <|
  WP.if_eq (pc2 := 117) (off := 18) (tgt := 132) rfl (by decide +kernel) (by decide) (fun _ =>
  WP.iconst (pc2 := 133) (x := -1) rfl (by decide +kernel) (by decide) <|
  WP.iret (by decide +kernel) rfl (fun hx => ⟨_, rfl, hx, rfl, rfl, f28⟩)) (fun h => absurd h (by decide))⟩
  )) (fun h4 => have f6 := f9.2.2 h4
  WP.iconst (pc2 := 39) (x := 1) rfl (by decide +kernel) (by decide) <|
  WP.goto (off := 4) (tgt := 43) (by decide +kernel) (by decide) <|
  WP.istore (pc2 := 45) (i := 4) rfl (by decide +kernel) (by decide) <|
  WP.iload_n (pc2 := 46) (i := 3) rfl (by decide +kernel) rfl <|
  WP.tsw (dflt := 88) (lo := 0) (hi' := 3) (offs := #[30, 37, 44, 66]) (len := 30) (by decide +kernel) (fun h3 => ⟨134, by decide, have f29 := f6.1 h3
  WP.iconst (pc2 := 135) (x := -1) rfl (by decide +kernel) (by decide) <|
  WP.iret (by decide +kernel) rfl (fun hx => ⟨_, rfl, hx, rfl, rfl, f29⟩)⟩) (fun h1 h2 => by
  rcases (show l3 = 0 ∨ l3 = 1 ∨ l3 = 2 ∨ l3 = 3 by omega) with h3 | h3 | h3 | h3
  · exact ⟨_, 76, by rw [h3]; rfl, by decide, have f30 := f6.2.1 h3
    WP.aload_n (pc2 := 77) (i := 0) rfl (by decide +kernel) rfl <|
  WP.getR (pc2 := 80) rfl (by decide +kernel) zc_12 zSh_37 (by decide) rfl lf_X12_61 rfl (rs_37_28 hM) <|
  WP.iload_n (pc2 := 81) (i := 1) rfl (by decide +kernel) rfl <|
  WP.iaload (pc2 := 82) rfl (by decide +kernel) zSh_52 rfl f30.1 rfl <|
  WP.iret (by decide +kernel) rfl (fun hx => ⟨_, rfl, hx, rfl, rfl, f30.2⟩)⟩
  · exact ⟨_, 83, by rw [h3]; rfl, by decide, have f31 := f6.2.2.1 h3
    WP.aload_n (pc2 := 84) (i := 0) rfl (by decide +kernel) rfl <|
  WP.getR (pc2 := 87) rfl (by decide +kernel) zc_12 zSh_37 (by decide) rfl lf_X12_64 rfl (rs_37_29 hM) <|
  WP.iload_n (pc2 := 88) (i := 1) rfl (by decide +kernel) rfl <|
  WP.iaload (pc2 := 89) rfl (by decide +kernel) zSh_53 rfl f31.1 rfl <|
  WP.iret (by decide +kernel) rfl (fun hx => ⟨_, rfl, hx, rfl, rfl, f31.2⟩)⟩
  · exact ⟨_, 90, by rw [h3]; rfl, by decide, have f32 := f6.2.2.2.1 h3
    WP.iload (pc2 := 92) (i := 4) rfl (by decide +kernel) rfl <|
  WP.if_eq (pc2 := 95) (off := 18) (tgt := 110) rfl (by decide +kernel) (by decide) (fun h => absurd h (by decide)) (fun _ =>
  WP.aload_n (pc2 := 96) (i := 0) rfl (by decide +kernel) rfl <|
  WP.getR (pc2 := 99) rfl (by decide +kernel) zc_12 zSh_37 (by decide) rfl lf_X12_70 rfl (rs_37_31 hM) <|
  WP.sipush (pc2 := 102) (x := 301) rfl (by decide +kernel) ⟨by decide +kernel, by decide⟩ <|
  WP.iload_n (pc2 := 103) (i := 1) rfl (by decide +kernel) rfl <|
  WP.imul (pc2 := 104) rfl (by decide +kernel) f32.1 <|
  WP.iload_n (pc2 := 105) (i := 2) rfl (by decide +kernel) rfl <|
  WP.iadd (pc2 := 106) rfl (by decide +kernel) f32.2.1 <|
  WP.iaload (pc2 := 107) rfl (by decide +kernel) zSh_55 rfl f32.2.2.1 rfl <|
  WP.goto (off := 4) (tgt := 111) (by decide +kernel) (by decide) <|
  WP.iret (by decide +kernel) rfl (fun hx => ⟨_, rfl, hx, rfl, rfl, f32.2.2.2⟩))⟩
  · exact ⟨_, 112, by rw [h3]; rfl, by decide, have f33 := f6.2.2.2.2 h3
    WP.iload (pc2 := 114) (i := 4) rfl (by decide +kernel) rfl <|
  WP.if_eq (pc2 := 117) (off := 18) (tgt := 132) rfl (by decide +kernel) (by decide) (fun h => absurd h (by decide)) (fun _ =>
  WP.aload_n (pc2 := 118) (i := 0) rfl (by decide +kernel) rfl <|
  WP.getR (pc2 := 121) rfl (by decide +kernel) zc_12 zSh_37 (by decide) rfl lf_X12_73 rfl (rs_37_32 hM) <|
  WP.sipush (pc2 := 124) (x := 301) rfl (by decide +kernel) ⟨by decide +kernel, by decide⟩ <|
  WP.iload_n (pc2 := 125) (i := 1) rfl (by decide +kernel) rfl <|
  WP.imul (pc2 := 126) rfl (by decide +kernel) f33.1 <|
  WP.iload_n (pc2 := 127) (i := 2) rfl (by decide +kernel) rfl <|
  WP.iadd (pc2 := 128) rfl (by decide +kernel) f33.2.1 <|
  WP.iaload (pc2 := 129) rfl (by decide +kernel) zSh_56 rfl f33.2.2.1 rfl <|
  WP.goto (off := 4) (tgt := 133) (by decide +kernel) (by decide) <|
  WP.iret (by decide +kernel) rfl (fun hx => ⟨_, rfl, hx, rfl, rfl, f33.2.2.2⟩))⟩
  )))) (fun h10 => have f12 := f15.2.2 h10
  WP.iconst (pc2 := 22) (x := -1) rfl (by decide +kernel) (by decide) <|
  WP.iret (by decide +kernel) rfl (fun hx => ⟨_, rfl, hx, rfl, rfl, f12⟩)))))
set_option maxRecDepth 100000 in
set_option maxHeartbeats 4000000 in
theorem GX12_told {hi : zI} {hr : zR} {P : Int → Prop} (hM : RSm hr) (l1 : Int) (l2 : Int) 
    (F : (l1 < 0 → (P (-1))) ∧ (0 ≤ l1 → ((l1 < hi 37 0 19 → (((l2 < 0 ∨ 4 < l2) → (P (-1))) ∧ (l2 = 0 → ((0 ≤ l1 ∧ l1 < 60) ∧ (P (hi 46 0 l1)))) ∧ (l2 = 1 → ((0 ≤ l1 ∧ l1 < 60) ∧ (P (hi 47 0 l1)))) ∧ (l2 = 2 → ((0 ≤ l1 ∧ l1 < 60) ∧ (P (hi 48 0 l1)))) ∧ (l2 = 3 → ((0 ≤ l1 ∧ l1 < 60) ∧ (P (hi 49 0 l1)))) ∧ (l2 = 4 → ((0 ≤ l1 ∧ l1 < 60) ∧ (P (hi 50 0 l1)))))) ∧ (hi 37 0 19 ≤ l1 → (P (-1)))))) :
    W0i mX12_told [.inr (some (37, 0)), .inl l1, .inl l2] hi hr P :=
  WPm.of rfl (show WP mX12_told 0 [some (.inr (some (37, 0))), some (.inl l1), some (.inl l2)] [] hi hr (zQ0i hi hr P) from
  WP.iload_n (pc2 := 1) (i := 1) rfl (by decide +kernel) rfl <|
  WP.if_lt (pc2 := 4) (off := 11) (tgt := 12) rfl (by decide +kernel) (by decide) (fun h5 => have f6 := F.1 h5
  WP.iconst (pc2 := 13) (x := -1) rfl (by decide +kernel) (by decide) <|
  WP.iret (by decide +kernel) rfl (fun hx => ⟨_, rfl, hx, rfl, rfl, f6⟩)) (fun h5 => have f7 := F.2 h5
  WP.iload_n (pc2 := 5) (i := 1) rfl (by decide +kernel) rfl <|
  WP.aload_n (pc2 := 6) (i := 0) rfl (by decide +kernel) rfl <|
  WP.getI (pc2 := 9) rfl (by decide +kernel) zc_12 zSh_37 (by decide) rfl lf_X12_198 rfl rfl <|
  WP.icmp_lt (pc2 := 12) (off := 5) (tgt := 14) rfl (by decide +kernel) (by decide) (fun h2 => have f3 := f7.1 h2
  WP.iload_n (pc2 := 15) (i := 2) rfl (by decide +kernel) rfl <|
  WP.tsw (dflt := 68) (lo := 0) (hi' := 4) (offs := #[33, 40, 47, 54, 61]) (len := 33) (by decide +kernel) (fun h1 => ⟨83, by decide, have f8 := f3.1 h1
  WP.iconst (pc2 := 84) (x := -1) rfl (by decide +kernel) (by decide) <|
  WP.iret (by decide +kernel) rfl (fun hx => ⟨_, rfl, hx, rfl, rfl, f8⟩)⟩) (fun h1 h2 => by
  rcases (show l2 = 0 ∨ l2 = 1 ∨ l2 = 2 ∨ l2 = 3 ∨ l2 = 4 by omega) with h1 | h1 | h1 | h1 | h1
  · exact ⟨_, 48, by rw [h1]; rfl, by decide, have f9 := f3.2.1 h1
    WP.aload_n (pc2 := 49) (i := 0) rfl (by decide +kernel) rfl <|
  WP.getR (pc2 := 52) rfl (by decide +kernel) zc_12 zSh_37 (by decide) rfl lf_X12_43 rfl (rs_37_22 hM) <|
  WP.iload_n (pc2 := 53) (i := 1) rfl (by decide +kernel) rfl <|
  WP.iaload (pc2 := 54) rfl (by decide +kernel) zSh_46 rfl f9.1 rfl <|
  WP.iret (by decide +kernel) rfl (fun hx => ⟨_, rfl, hx, rfl, rfl, f9.2⟩)⟩
  · exact ⟨_, 55, by rw [h1]; rfl, by decide, have f10 := f3.2.2.1 h1
    WP.aload_n (pc2 := 56) (i := 0) rfl (by decide +kernel) rfl <|
  WP.getR (pc2 := 59) rfl (by decide +kernel) zc_12 zSh_37 (by decide) rfl lf_X12_46 rfl (rs_37_23 hM) <|
  WP.iload_n (pc2 := 60) (i := 1) rfl (by decide +kernel) rfl <|
  WP.iaload (pc2 := 61) rfl (by decide +kernel) zSh_47 rfl f10.1 rfl <|
  WP.iret (by decide +kernel) rfl (fun hx => ⟨_, rfl, hx, rfl, rfl, f10.2⟩)⟩
  · exact ⟨_, 62, by rw [h1]; rfl, by decide, have f11 := f3.2.2.2.1 h1
    WP.aload_n (pc2 := 63) (i := 0) rfl (by decide +kernel) rfl <|
  WP.getR (pc2 := 66) rfl (by decide +kernel) zc_12 zSh_37 (by decide) rfl lf_X12_49 rfl (rs_37_24 hM) <|
  WP.iload_n (pc2 := 67) (i := 1) rfl (by decide +kernel) rfl <|
  WP.iaload (pc2 := 68) rfl (by decide +kernel) zSh_48 rfl f11.1 rfl <|
  WP.iret (by decide +kernel) rfl (fun hx => ⟨_, rfl, hx, rfl, rfl, f11.2⟩)⟩
  · exact ⟨_, 69, by rw [h1]; rfl, by decide, have f12 := f3.2.2.2.2.1 h1
    WP.aload_n (pc2 := 70) (i := 0) rfl (by decide +kernel) rfl <|
  WP.getR (pc2 := 73) rfl (by decide +kernel) zc_12 zSh_37 (by decide) rfl lf_X12_52 rfl (rs_37_25 hM) <|
  WP.iload_n (pc2 := 74) (i := 1) rfl (by decide +kernel) rfl <|
  WP.iaload (pc2 := 75) rfl (by decide +kernel) zSh_49 rfl f12.1 rfl <|
  WP.iret (by decide +kernel) rfl (fun hx => ⟨_, rfl, hx, rfl, rfl, f12.2⟩)⟩
  · exact ⟨_, 76, by rw [h1]; rfl, by decide, have f13 := f3.2.2.2.2.2 h1
    WP.aload_n (pc2 := 77) (i := 0) rfl (by decide +kernel) rfl <|
  WP.getR (pc2 := 80) rfl (by decide +kernel) zc_12 zSh_37 (by decide) rfl lf_X12_55 rfl (rs_37_26 hM) <|
  WP.iload_n (pc2 := 81) (i := 1) rfl (by decide +kernel) rfl <|
  WP.iaload (pc2 := 82) rfl (by decide +kernel) zSh_50 rfl f13.1 rfl <|
  WP.iret (by decide +kernel) rfl (fun hx => ⟨_, rfl, hx, rfl, rfl, f13.2⟩)⟩
  )) (fun h2 => have f4 := f7.2 h2
  WP.iconst (pc2 := 13) (x := -1) rfl (by decide +kernel) (by decide) <|
  WP.iret (by decide +kernel) rfl (fun hx => ⟨_, rfl, hx, rfl, rfl, f4⟩))))
set_option maxRecDepth 100000 in
set_option maxHeartbeats 4000000 in
theorem GX12_count {hi : zI} {hr : zR} {P : Int → Prop} (l1 : Int) 
    (F : ((l1 < 0 ∨ 12 < l1) → (P (-1))) ∧ (l1 = 0 → ((zInR ((hi 37 0 5) * (hi 37 0 6))) ∧ (P ((hi 37 0 5) * (hi 37 0 6))))) ∧ (l1 = 1 → (P (hi 37 0 6))) ∧ (l1 = 2 → (P (hi 37 0 10))) ∧ (l1 = 3 → (P (hi 37 0 9))) ∧ (l1 = 4 → (P (hi 37 0 19))) ∧ (l1 = 5 → (P (hi 37 0 20))) ∧ (l1 = 6 → (P (hi 37 0 21))) ∧ (l1 = 7 → (P (hi 37 0 61))) ∧ (l1 = 8 → (P (hi 37 0 35))) ∧ (l1 = 9 → (P (hi 37 0 36))) ∧ (l1 = 10 → (P (hi 37 0 37))) ∧ (l1 = 11 → (P (hi 37 0 53))) ∧ (l1 = 12 → (P (hi 37 0 2)))) :
    W0i mX12_count [.inr (some (37, 0)), .inl l1] hi hr P :=
  WPm.of rfl (show WP mX12_count 0 [some (.inr (some (37, 0))), some (.inl l1)] [] hi hr (zQ0i hi hr P) from
  WP.iload_n (pc2 := 1) (i := 1) rfl (by decide +kernel) rfl <|
  WP.tsw (dflt := 137) (lo := 0) (hi' := 12) (offs := #[67, 77, 82, 87, 92, 97, 102, 107, 112, 117, 122, 127, 132]) (len := 67) (by decide +kernel) (fun h1 => ⟨138, by decide, have f2 := F.1 h1
  WP.iconst (pc2 := 139) (x := -1) rfl (by decide +kernel) (by decide) <|
  WP.iret (by decide +kernel) rfl (fun hx => ⟨_, rfl, hx, rfl, rfl, f2⟩)⟩) (fun h1 h2 => by
  rcases (show l1 = 0 ∨ l1 = 1 ∨ l1 = 2 ∨ l1 = 3 ∨ l1 = 4 ∨ l1 = 5 ∨ l1 = 6 ∨ l1 = 7 ∨ l1 = 8 ∨ l1 = 9 ∨ l1 = 10 ∨ l1 = 11 ∨ l1 = 12 by omega) with h1 | h1 | h1 | h1 | h1 | h1 | h1 | h1 | h1 | h1 | h1 | h1 | h1
  · exact ⟨_, 68, by rw [h1]; rfl, by decide, have f3 := F.2.1 h1
    WP.aload_n (pc2 := 69) (i := 0) rfl (by decide +kernel) rfl <|
  WP.getI (pc2 := 72) rfl (by decide +kernel) zc_12 zSh_37 (by decide) rfl lf_X12_149 rfl rfl <|
  WP.aload_n (pc2 := 73) (i := 0) rfl (by decide +kernel) rfl <|
  WP.getI (pc2 := 76) rfl (by decide +kernel) zc_12 zSh_37 (by decide) rfl lf_X12_152 rfl rfl <|
  WP.imul (pc2 := 77) rfl (by decide +kernel) f3.1 <|
  WP.iret (by decide +kernel) rfl (fun hx => ⟨_, rfl, hx, rfl, rfl, f3.2⟩)⟩
  · exact ⟨_, 78, by rw [h1]; rfl, by decide, have f4 := F.2.2.1 h1
    WP.aload_n (pc2 := 79) (i := 0) rfl (by decide +kernel) rfl <|
  WP.getI (pc2 := 82) rfl (by decide +kernel) zc_12 zSh_37 (by decide) rfl lf_X12_152 rfl rfl <|
  WP.iret (by decide +kernel) rfl (fun hx => ⟨_, rfl, hx, rfl, rfl, f4⟩)⟩
  · exact ⟨_, 83, by rw [h1]; rfl, by decide, have f5 := F.2.2.2.1 h1
    WP.aload_n (pc2 := 84) (i := 0) rfl (by decide +kernel) rfl <|
  WP.getI (pc2 := 87) rfl (by decide +kernel) zc_12 zSh_37 (by decide) rfl lf_X12_195 rfl rfl <|
  WP.iret (by decide +kernel) rfl (fun hx => ⟨_, rfl, hx, rfl, rfl, f5⟩)⟩
  · exact ⟨_, 88, by rw [h1]; rfl, by decide, have f6 := F.2.2.2.2.1 h1
    WP.aload_n (pc2 := 89) (i := 0) rfl (by decide +kernel) rfl <|
  WP.getI (pc2 := 92) rfl (by decide +kernel) zc_12 zSh_37 (by decide) rfl lf_X12_192 rfl rfl <|
  WP.iret (by decide +kernel) rfl (fun hx => ⟨_, rfl, hx, rfl, rfl, f6⟩)⟩
  · exact ⟨_, 93, by rw [h1]; rfl, by decide, have f7 := F.2.2.2.2.2.1 h1
    WP.aload_n (pc2 := 94) (i := 0) rfl (by decide +kernel) rfl <|
  WP.getI (pc2 := 97) rfl (by decide +kernel) zc_12 zSh_37 (by decide) rfl lf_X12_198 rfl rfl <|
  WP.iret (by decide +kernel) rfl (fun hx => ⟨_, rfl, hx, rfl, rfl, f7⟩)⟩
  · exact ⟨_, 98, by rw [h1]; rfl, by decide, have f8 := F.2.2.2.2.2.2.1 h1
    WP.aload_n (pc2 := 99) (i := 0) rfl (by decide +kernel) rfl <|
  WP.getI (pc2 := 102) rfl (by decide +kernel) zc_12 zSh_37 (by decide) rfl lf_X12_201 rfl rfl <|
  WP.iret (by decide +kernel) rfl (fun hx => ⟨_, rfl, hx, rfl, rfl, f8⟩)⟩
  · exact ⟨_, 103, by rw [h1]; rfl, by decide, have f9 := F.2.2.2.2.2.2.2.1 h1
    WP.aload_n (pc2 := 104) (i := 0) rfl (by decide +kernel) rfl <|
  WP.getI (pc2 := 107) rfl (by decide +kernel) zc_12 zSh_37 (by decide) rfl lf_X12_204 rfl rfl <|
  WP.iret (by decide +kernel) rfl (fun hx => ⟨_, rfl, hx, rfl, rfl, f9⟩)⟩
  · exact ⟨_, 108, by rw [h1]; rfl, by decide, have f10 := F.2.2.2.2.2.2.2.2.1 h1
    WP.aload_n (pc2 := 109) (i := 0) rfl (by decide +kernel) rfl <|
  WP.getI (pc2 := 112) rfl (by decide +kernel) zc_12 zSh_37 (by decide) rfl lf_X12_207 rfl rfl <|
  WP.iret (by decide +kernel) rfl (fun hx => ⟨_, rfl, hx, rfl, rfl, f10⟩)⟩
  · exact ⟨_, 113, by rw [h1]; rfl, by decide, have f11 := F.2.2.2.2.2.2.2.2.2.1 h1
    WP.aload_n (pc2 := 114) (i := 0) rfl (by decide +kernel) rfl <|
  WP.getI (pc2 := 117) rfl (by decide +kernel) zc_12 zSh_37 (by decide) rfl lf_X12_210 rfl rfl <|
  WP.iret (by decide +kernel) rfl (fun hx => ⟨_, rfl, hx, rfl, rfl, f11⟩)⟩
  · exact ⟨_, 118, by rw [h1]; rfl, by decide, have f12 := F.2.2.2.2.2.2.2.2.2.2.1 h1
    WP.aload_n (pc2 := 119) (i := 0) rfl (by decide +kernel) rfl <|
  WP.getI (pc2 := 122) rfl (by decide +kernel) zc_12 zSh_37 (by decide) rfl lf_X12_213 rfl rfl <|
  WP.iret (by decide +kernel) rfl (fun hx => ⟨_, rfl, hx, rfl, rfl, f12⟩)⟩
  · exact ⟨_, 123, by rw [h1]; rfl, by decide, have f13 := F.2.2.2.2.2.2.2.2.2.2.2.1 h1
    WP.aload_n (pc2 := 124) (i := 0) rfl (by decide +kernel) rfl <|
  WP.getI (pc2 := 127) rfl (by decide +kernel) zc_12 zSh_37 (by decide) rfl lf_X12_216 rfl rfl <|
  WP.iret (by decide +kernel) rfl (fun hx => ⟨_, rfl, hx, rfl, rfl, f13⟩)⟩
  · exact ⟨_, 128, by rw [h1]; rfl, by decide, have f14 := F.2.2.2.2.2.2.2.2.2.2.2.2.1 h1
    WP.aload_n (pc2 := 129) (i := 0) rfl (by decide +kernel) rfl <|
  WP.getI (pc2 := 132) rfl (by decide +kernel) zc_12 zSh_37 (by decide) rfl lf_X12_219 rfl rfl <|
  WP.iret (by decide +kernel) rfl (fun hx => ⟨_, rfl, hx, rfl, rfl, f14⟩)⟩
  · exact ⟨_, 133, by rw [h1]; rfl, by decide, have f15 := F.2.2.2.2.2.2.2.2.2.2.2.2.2 h1
    WP.aload_n (pc2 := 134) (i := 0) rfl (by decide +kernel) rfl <|
  WP.getI (pc2 := 137) rfl (by decide +kernel) zc_12 zSh_37 (by decide) rfl lf_X12_161 rfl rfl <|
  WP.iret (by decide +kernel) rfl (fun hx => ⟨_, rfl, hx, rfl, rfl, f15⟩)⟩
  ))
