set_option maxRecDepth 100000 in
set_option maxHeartbeats 4000000 in
theorem GX12_cuts {hi : zI} {hr : zR} {P : zI → Prop} (l1 : Int) 
    (F : WP mX12_cuts 19 [some (.inr (some (37, 0))), some (.inl l1), some (.inl 0), some (.inl 0), none, none, none] [] (zup (zup (zup hi 37 0 3 0) 37 0 13 0) 37 0 14 (-1)) hr (zQ1v hr P)) :
    W1v mX12_cuts [.inr (some (37, 0)), .inl l1] hi hr P :=
  WPm.of rfl (show WP mX12_cuts 0 [some (.inr (some (37, 0))), some (.inl l1), none, none, none, none, none] [] hi hr (zQ1v hr P) from
  WP.aload_n (pc2 := 1) (i := 0) rfl (by decide +kernel) rfl <|
  WP.iconst (pc2 := 2) (x := 0) rfl (by decide +kernel) (by decide) <|
  WP.putI (pc2 := 5) rfl (by decide +kernel) zc_12 zSh_37 (by decide) rfl lf_X12_168 rfl (z_int _) rfl <|
  WP.aload_n (pc2 := 6) (i := 0) rfl (by decide +kernel) rfl <|
  WP.iconst (pc2 := 7) (x := 0) rfl (by decide +kernel) (by decide) <|
  WP.putI (pc2 := 10) rfl (by decide +kernel) zc_12 zSh_37 (by decide) rfl lf_X12_171 rfl (z_int _) rfl <|
  WP.aload_n (pc2 := 11) (i := 0) rfl (by decide +kernel) rfl <|
  WP.iconst (pc2 := 12) (x := -1) rfl (by decide +kernel) (by decide) <|
  WP.putI (pc2 := 15) rfl (by decide +kernel) zc_12 zSh_37 (by decide) rfl lf_X12_174 rfl (z_int _) rfl <|
  WP.iconst (pc2 := 16) (x := 0) rfl (by decide +kernel) (by decide) <|
  WP.istore_n (pc2 := 17) (i := 2) rfl (by decide +kernel) (by decide) <|
  WP.iconst (pc2 := 18) (x := 0) rfl (by decide +kernel) (by decide) <|
  WP.istore_n (pc2 := 19) (i := 3) rfl (by decide +kernel) (by decide) <|
  F)

set_option maxRecDepth 100000 in
set_option maxHeartbeats 4000000 in
theorem GX12_cuts_112 {hi : zI} {hr : zR} {P : zI → Prop} (l1 : Int) (a2 : Int) (a3 : Int) (a4 : Int) (a5 : Int) (a6 : Int) 
    (F : (a4 = 0 → ((hi 37 0 14 = -1 → (WP mX12_cuts 170 [some (.inr (some (37, 0))), some (.inl l1), some (.inl a2), some (.inl a3), some (.inl a4), some (.inl a5), some (.inl a6)] [] hi hr (zQ1v hr P))) ∧ (hi 37 0 14 ≠ -1 → ((a2 < hi 37 0 14 → (WP mX12_cuts 170 [some (.inr (some (37, 0))), some (.inl l1), some (.inl a2), some (.inl a3), some (.inl a4), some (.inl a5), some (.inl a6)] [] hi hr (zQ1v hr P))) ∧ (hi 37 0 14 ≤ a2 → (WP mX12_cuts 164 [some (.inr (some (37, 0))), some (.inl l1), some (.inl a2), some (.inl a3), some (.inl a4), some (.inl a5), some (.inl a6)] [] hi hr (zQ1v hr P))))))) ∧ (a4 ≠ 0 → ((a2 ≠ 0 → (WP mX12_cuts 129 [some (.inr (some (37, 0))), some (.inl l1), some (.inl a2), some (.inl a3), some (.inl a4), some (.inl a5), some (.inl a6)] [] hi hr (zQ1v hr P))) ∧ (a2 = 0 → ((hi 37 0 14 = -1 → (WP mX12_cuts 164 [some (.inr (some (37, 0))), some (.inl l1), some (.inl a2), some (.inl a3), some (.inl a4), some (.inl a5), some (.inl a6)] [] hi hr (zQ1v hr P))) ∧ (hi 37 0 14 ≠ -1 → (WP mX12_cuts 129 [some (.inr (some (37, 0))), some (.inl l1), some (.inl a2), some (.inl a3), some (.inl a4), some (.inl a5), some (.inl a6)] [] hi hr (zQ1v hr P)))))))) :
    WP mX12_cuts 112 [some (.inr (some (37, 0))), some (.inl l1), some (.inl a2), some (.inl a3), some (.inl a4), some (.inl a5), some (.inl a6)] [] hi hr (zQ1v hr P) :=
  WP.iload (pc2 := 114) (i := 4) rfl (by decide +kernel) rfl <|
  WP.if_eq (pc2 := 117) (off := 34) (tgt := 148) rfl (by decide +kernel) (by decide) (fun h42 => have f43 := F.1 h42
  WP.aload_n (pc2 := 149) (i := 0) rfl (by decide +kernel) rfl <|
  WP.getI (pc2 := 152) rfl (by decide +kernel) zc_12 zSh_37 (by decide) rfl lf_X12_174 rfl rfl <|
  WP.iconst (pc2 := 153) (x := -1) rfl (by decide +kernel) (by decide) <|
  WP.icmp_eq (pc2 := 156) (off := 17) (tgt := 170) rfl (by decide +kernel) (by decide) (fun h33 => have f34 := f43.1 h33
  f34) (fun h33 => have f35 := f43.2 h33
  WP.iload_n (pc2 := 157) (i := 2) rfl (by decide +kernel) rfl <|
  WP.aload_n (pc2 := 158) (i := 0) rfl (by decide +kernel) rfl <|
  WP.getI (pc2 := 161) rfl (by decide +kernel) zc_12 zSh_37 (by decide) rfl lf_X12_174 rfl rfl <|
  WP.icmp_lt (pc2 := 164) (off := 9) (tgt := 170) rfl (by decide +kernel) (by decide) (fun h30 => have f31 := f35.1 h30
  f31) (fun h30 => have f32 := f35.2 h30
  f32))) (fun h42 => have f44 := F.2 h42
  WP.iload_n (pc2 := 118) (i := 2) rfl (by decide +kernel) rfl <|
  WP.if_ne (pc2 := 121) (off := 11) (tgt := 129) rfl (by decide +kernel) (by decide) (fun h39 => have f40 := f44.1 h39
  f40) (fun h39 => have f41 := f44.2 h39
  WP.aload_n (pc2 := 122) (i := 0) rfl (by decide +kernel) rfl <|
  WP.getI (pc2 := 125) rfl (by decide +kernel) zc_12 zSh_37 (by decide) rfl lf_X12_174 rfl rfl <|
  WP.iconst (pc2 := 126) (x := -1) rfl (by decide +kernel) (by decide) <|
  WP.icmp_eq (pc2 := 129) (off := 38) (tgt := 164) rfl (by decide +kernel) (by decide) (fun h36 => have f37 := f41.1 h36
  f37) (fun h36 => have f38 := f41.2 h36
  f38)))

set_option maxRecDepth 100000 in
set_option maxHeartbeats 4000000 in
theorem GX12_cuts_197 {hi : zI} {hr : zR} {P : zI → Prop} (hM : RSm hr) (l1 : Int) (a2 : Int) (a3 : Int) (a4 : Int) (a5 : Int) (a6 : Int) 
    (F : (a6 ≤ 0 → ((a4 = 0 → ((zInR (16 * (hi 37 0 13))) ∧ ((zInR (256 + (16 * (hi 37 0 13)))) ∧ ((zInR ((256 + (16 * (hi 37 0 13))) + a2)) ∧ ((0 ≤ (256 + (16 * (hi 37 0 13))) + a2 ∧ (256 + (16 * (hi 37 0 13))) + a2 < 512) ∧ ((zInR (a2 + 1)) ∧ (WP mX12_cuts 270 [some (.inr (some (37, 0))), some (.inl l1), some (.inl (a2 + 1)), some (.inl a3), some (.inl a4), some (.inl a5), some (.inl a6)] [] (zup hi 39 0 ((256 + (16 * (hi 37 0 13))) + a2) a5) hr (zQ1v hr P)))))))) ∧ (a4 ≠ 0 → ((hi 37 0 14 ≠ -1 → (WP mX12_cuts 232 [some (.inr (some (37, 0))), some (.inl l1), some (.inl a2), some (.inl a3), some (.inl a4), some (.inl a5), some (.inl a6)] [] hi hr (zQ1v hr P))) ∧ (hi 37 0 14 = -1 → (WP mX12_cuts 232 [some (.inr (some (37, 0))), some (.inl l1), some (.inl a2), some (.inl a3), some (.inl a4), some (.inl a5), some (.inl a6)] [] (zup hi 37 0 14 a2) hr (zQ1v hr P))))))) ∧ (0 < a6 → (P (zup (zup hi 37 0 3 a6) 37 0 4 a3)))) :
    WP mX12_cuts 197 [some (.inr (some (37, 0))), some (.inl l1), some (.inl a2), some (.inl a3), some (.inl a4), some (.inl a5), some (.inl a6)] [] hi hr (zQ1v hr P) :=
  WP.iload (pc2 := 199) (i := 6) rfl (by decide +kernel) rfl <|
  WP.if_le (pc2 := 202) (off := 15) (tgt := 214) rfl (by decide +kernel) (by decide) (fun h51 => have f52 := F.1 h51
  WP.iload (pc2 := 216) (i := 4) rfl (by decide +kernel) rfl <|
  WP.if_eq (pc2 := 219) (off := 31) (tgt := 247) rfl (by decide +kernel) (by decide) (fun h48 => have f49 := f52.1 h48
  WP.aload_n (pc2 := 248) (i := 0) rfl (by decide +kernel) rfl <|
  WP.getR (pc2 := 251) rfl (by decide +kernel) zc_12 zSh_37 (by decide) rfl lf_X12_20 rfl (rs_37_7 hM) <|
  WP.sipush (pc2 := 254) (x := 256) rfl (by decide +kernel) ⟨by decide +kernel, by decide⟩ <|
  WP.bipush (pc2 := 256) (x := 16) rfl (by decide +kernel) ⟨by decide +kernel, by decide⟩ <|
  WP.aload_n (pc2 := 257) (i := 0) rfl (by decide +kernel) rfl <|
  WP.getI (pc2 := 260) rfl (by decide +kernel) zc_12 zSh_37 (by decide) rfl lf_X12_171 rfl rfl <|
  WP.imul (pc2 := 261) rfl (by decide +kernel) f49.1 <|
  WP.iadd (pc2 := 262) rfl (by decide +kernel) f49.2.1 <|
  WP.iload_n (pc2 := 263) (i := 2) rfl (by decide +kernel) rfl <|
  WP.iadd (pc2 := 264) rfl (by decide +kernel) f49.2.2.1 <|
  WP.iload (pc2 := 266) (i := 5) rfl (by decide +kernel) rfl <|
  WP.iastore (pc2 := 267) rfl (by decide +kernel) zSh_39 rfl f49.2.2.2.1 <|
  WP.iinc (pc2 := 270) (i := 2) (d := 1) rfl (by decide +kernel) rfl f49.2.2.2.2.1 <|
  f49.2.2.2.2.2) (fun h48 => have f50 := f52.2 h48
  WP.aload_n (pc2 := 220) (i := 0) rfl (by decide +kernel) rfl <|
  WP.getI (pc2 := 223) rfl (by decide +kernel) zc_12 zSh_37 (by decide) rfl lf_X12_174 rfl rfl <|
  WP.iconst (pc2 := 224) (x := -1) rfl (by decide +kernel) (by decide) <|
  WP.icmp_ne (pc2 := 227) (off := 8) (tgt := 232) rfl (by decide +kernel) (by decide) (fun h45 => have f46 := f50.1 h45
  f46) (fun h45 => have f47 := f50.2 h45
  WP.aload_n (pc2 := 228) (i := 0) rfl (by decide +kernel) rfl <|
  WP.iload_n (pc2 := 229) (i := 2) rfl (by decide +kernel) rfl <|
  WP.putI (pc2 := 232) rfl (by decide +kernel) zc_12 zSh_37 (by decide) rfl lf_X12_174 rfl (z_int _) rfl <|
  f47))) (fun h51 => have f53 := F.2 h51
  WP.aload_n (pc2 := 203) (i := 0) rfl (by decide +kernel) rfl <|
  WP.iload (pc2 := 205) (i := 6) rfl (by decide +kernel) rfl <|
  WP.putI (pc2 := 208) rfl (by decide +kernel) zc_12 zSh_37 (by decide) rfl lf_X12_168 rfl (z_int _) rfl <|
  WP.aload_n (pc2 := 209) (i := 0) rfl (by decide +kernel) rfl <|
  WP.iload_n (pc2 := 210) (i := 3) rfl (by decide +kernel) rfl <|
  WP.putI (pc2 := 213) rfl (by decide +kernel) zc_12 zSh_37 (by decide) rfl lf_X12_17 rfl (z_int _) rfl <|
  WP.vret (by decide +kernel) rfl ⟨rfl, rfl, f53⟩)

set_option maxRecDepth 100000 in
set_option maxHeartbeats 4000000 in
theorem GX12_cuts_170 {hi : zI} {hr : zR} {P : zI → Prop} (l1 : Int) (a2 : Int) (a3 : Int) (a4 : Int) (a5 : Int) (a6 : Int) 
    (F : (a2 ≠ 0 → (WP mX12_cuts 183 [some (.inr (some (37, 0))), some (.inl l1), some (.inl a2), some (.inl a3), some (.inl a4), some (.inl a5), some (.inl a6)] [] hi hr (zQ1v hr P))) ∧ (a2 = 0 → ((hi 37 0 13 = 16 → (WP mX12_cuts 194 [some (.inr (some (37, 0))), some (.inl l1), some (.inl a2), some (.inl a3), some (.inl a4), some (.inl a5), some (.inl a6)] [] hi hr (zQ1v hr P))) ∧ (hi 37 0 13 ≠ 16 → (WP mX12_cuts 183 [some (.inr (some (37, 0))), some (.inl l1), some (.inl a2), some (.inl a3), some (.inl a4), some (.inl a5), some (.inl a6)] [] hi hr (zQ1v hr P)))))) :
    WP mX12_cuts 170 [some (.inr (some (37, 0))), some (.inl l1), some (.inl a2), some (.inl a3), some (.inl a4), some (.inl a5), some (.inl a6)] [] hi hr (zQ1v hr P) :=
  WP.iload_n (pc2 := 171) (i := 2) rfl (by decide +kernel) rfl <|
  WP.if_ne (pc2 := 174) (off := 12) (tgt := 183) rfl (by decide +kernel) (by decide) (fun h57 => have f58 := F.1 h57
  f58) (fun h57 => have f59 := F.2 h57
  WP.aload_n (pc2 := 175) (i := 0) rfl (by decide +kernel) rfl <|
  WP.getI (pc2 := 178) rfl (by decide +kernel) zc_12 zSh_37 (by decide) rfl lf_X12_171 rfl rfl <|
  WP.bipush (pc2 := 180) (x := 16) rfl (by decide +kernel) ⟨by decide +kernel, by decide⟩ <|
  WP.icmp_eq (pc2 := 183) (off := 14) (tgt := 194) rfl (by decide +kernel) (by decide) (fun h54 => have f55 := f59.1 h54
  f55) (fun h54 => have f56 := f59.2 h54
  f56))

set_option maxRecDepth 100000 in
set_option maxHeartbeats 4000000 in
theorem GX12_cuts_164 {hi : zI} {hr : zR} {P : zI → Prop} (l1 : Int) (a2 : Int) (a3 : Int) (a4 : Int) (a5 : Int) (a6 : Int) 
    (F : WP mX12_cuts 197 [some (.inr (some (37, 0))), some (.inl l1), some (.inl a2), some (.inl a3), some (.inl a4), some (.inl a5), some (.inl 2)] [] hi hr (zQ1v hr P)) :
    WP mX12_cuts 164 [some (.inr (some (37, 0))), some (.inl l1), some (.inl a2), some (.inl a3), some (.inl a4), some (.inl a5), some (.inl a6)] [] hi hr (zQ1v hr P) :=
  WP.iconst (pc2 := 165) (x := 2) rfl (by decide +kernel) (by decide) <|
  WP.istore (pc2 := 167) (i := 6) rfl (by decide +kernel) (by decide) <|
  WP.goto (off := 30) (tgt := 197) (by decide +kernel) (by decide) <|
  F

set_option maxRecDepth 100000 in
set_option maxHeartbeats 4000000 in
theorem GX12_cuts_129 {hi : zI} {hr : zR} {P : zI → Prop} (l1 : Int) (a2 : Int) (a3 : Int) (a4 : Int) (a5 : Int) (a6 : Int) 
    (F : (hi 37 0 14 = -1 → (WP mX12_cuts 170 [some (.inr (some (37, 0))), some (.inl l1), some (.inl a2), some (.inl a3), some (.inl a4), some (.inl a5), some (.inl a6)] [] hi hr (zQ1v hr P))) ∧ (hi 37 0 14 ≠ -1 → ((hi 37 0 14 ≤ a2 → (WP mX12_cuts 170 [some (.inr (some (37, 0))), some (.inl l1), some (.inl a2), some (.inl a3), some (.inl a4), some (.inl a5), some (.inl a6)] [] hi hr (zQ1v hr P))) ∧ (a2 < hi 37 0 14 → (WP mX12_cuts 164 [some (.inr (some (37, 0))), some (.inl l1), some (.inl a2), some (.inl a3), some (.inl a4), some (.inl a5), some (.inl a6)] [] hi hr (zQ1v hr P)))))) :
    WP mX12_cuts 129 [some (.inr (some (37, 0))), some (.inl l1), some (.inl a2), some (.inl a3), some (.inl a4), some (.inl a5), some (.inl a6)] [] hi hr (zQ1v hr P) :=
  WP.aload_n (pc2 := 130) (i := 0) rfl (by decide +kernel) rfl <|
  WP.getI (pc2 := 133) rfl (by decide +kernel) zc_12 zSh_37 (by decide) rfl lf_X12_174 rfl rfl <|
  WP.iconst (pc2 := 134) (x := -1) rfl (by decide +kernel) (by decide) <|
  WP.icmp_eq (pc2 := 137) (off := 36) (tgt := 170) rfl (by decide +kernel) (by decide) (fun h63 => have f64 := F.1 h63
  f64) (fun h63 => have f65 := F.2 h63
  WP.iload_n (pc2 := 138) (i := 2) rfl (by decide +kernel) rfl <|
  WP.aload_n (pc2 := 139) (i := 0) rfl (by decide +kernel) rfl <|
  WP.getI (pc2 := 142) rfl (by decide +kernel) zc_12 zSh_37 (by decide) rfl lf_X12_174 rfl rfl <|
  WP.icmp_ge (pc2 := 145) (off := 28) (tgt := 170) rfl (by decide +kernel) (by decide) (fun h60 => have f61 := f65.1 h60
  f61) (fun h60 => have f62 := f65.2 h60
  WP.goto (off := 19) (tgt := 164) (by decide +kernel) (by decide) <|
  f62))

set_option maxRecDepth 100000 in
set_option maxHeartbeats 4000000 in
theorem GX12_cuts_270 {hi : zI} {hr : zR} {P : zI → Prop} (l1 : Int) (a2 : Int) (a3 : Int) (a4 : Int) (a5 : Int) (a6 : Int) 
    (F : (zInR (a3 + 1)) ∧ (WP mX12_cuts 19 [some (.inr (some (37, 0))), some (.inl l1), some (.inl a2), some (.inl (a3 + 1)), some (.inl a4), some (.inl a5), some (.inl a6)] [] hi hr (zQ1v hr P))) :
    WP mX12_cuts 270 [some (.inr (some (37, 0))), some (.inl l1), some (.inl a2), some (.inl a3), some (.inl a4), some (.inl a5), some (.inl a6)] [] hi hr (zQ1v hr P) :=
  WP.iinc (pc2 := 273) (i := 3) (d := 1) rfl (by decide +kernel) rfl F.1 <|
  WP.goto (off := -254) (tgt := 19) (by decide +kernel) (by decide) <|
  F.2

set_option maxRecDepth 100000 in
set_option maxHeartbeats 4000000 in
theorem GX12_cuts_19 {hi : zI} {hr : zR} {P : zI → Prop} (hM : RSm hr) (l1 : Int) (a2 : Int) (a3 : Int) (u4 : Option zV) (u5 : Option zV) (u6 : Option zV) 
    (F : (l1 < a3 → P hi) ∧ (a3 ≤ l1 → ((a3 = l1 → (WP mX12_cuts 44 [some (.inr (some (37, 0))), some (.inl l1), some (.inl a2), some (.inl a3), u4, u5, u6] [] hi hr (zQ1v hr P))) ∧ (a3 ≠ l1 → ((0 ≤ a3 ∧ a3 < 400) ∧ ((zand (hi 38 0 a3) 255 ≠ 10 → (WP mX12_cuts 49 [some (.inr (some (37, 0))), some (.inl l1), some (.inl a2), some (.inl a3), u4, u5, u6] [.inl 0] hi hr (zQ1v hr P))) ∧ (zand (hi 38 0 a3) 255 = 10 → (WP mX12_cuts 44 [some (.inr (some (37, 0))), some (.inl l1), some (.inl a2), some (.inl a3), u4, u5, u6] [] hi hr (zQ1v hr P))))))))) :
    WP mX12_cuts 19 [some (.inr (some (37, 0))), some (.inl l1), some (.inl a2), some (.inl a3), u4, u5, u6] [] hi hr (zQ1v hr P) :=
  WP.iload_n (pc2 := 20) (i := 3) rfl (by decide +kernel) rfl <|
  WP.iload_n (pc2 := 21) (i := 1) rfl (by decide +kernel) rfl <|
  WP.icmp_gt (pc2 := 24) (off := 255) (tgt := 276) rfl (by decide +kernel) (by decide) (fun h72 => have f73 := F.1 h72
  WP.vret (by decide +kernel) rfl ⟨rfl, rfl, f73⟩) (fun h72 => have f74 := F.2 h72
  WP.iload_n (pc2 := 25) (i := 3) rfl (by decide +kernel) rfl <|
  WP.iload_n (pc2 := 26) (i := 1) rfl (by decide +kernel) rfl <|
  WP.icmp_eq (pc2 := 29) (off := 18) (tgt := 44) rfl (by decide +kernel) (by decide) (fun h69 => have f70 := f74.1 h69
  f70) (fun h69 => have f71 := f74.2 h69
  WP.aload_n (pc2 := 30) (i := 0) rfl (by decide +kernel) rfl <|
  WP.getR (pc2 := 33) rfl (by decide +kernel) zc_12 zSh_37 (by decide) rfl lf_X12_13 rfl (rs_37_1 hM) <|
  WP.iload_n (pc2 := 34) (i := 3) rfl (by decide +kernel) rfl <|
  WP.baload (pc2 := 35) rfl (by decide +kernel) zSh_38 (by decide) rfl f71.1 rfl <|
  WP.sipush (pc2 := 38) (x := 255) rfl (by decide +kernel) ⟨by decide +kernel, by decide⟩ <|
  WP.iand (pc2 := 39) rfl (by decide +kernel) <|
  WP.bipush (pc2 := 41) (x := 10) rfl (by decide +kernel) ⟨by decide +kernel, by decide⟩ <|
  WP.icmp_ne (pc2 := 44) (off := 7) (tgt := 48) rfl (by decide +kernel) (by decide) (fun h66 => have f67 := f71.2.1 h66
  WP.iconst (pc2 := 49) (x := 0) rfl (by decide +kernel) (by decide) <|
  f67) (fun h66 => have f68 := f71.2.2 h66
  f68)))

set_option maxRecDepth 100000 in
set_option maxHeartbeats 4000000 in
theorem GX12_cuts_44 {hi : zI} {hr : zR} {P : zI → Prop} (l1 : Int) (a2 : Int) (a3 : Int) (u4 : Option zV) (u5 : Option zV) (u6 : Option zV) 
    (F : WP mX12_cuts 49 [some (.inr (some (37, 0))), some (.inl l1), some (.inl a2), some (.inl a3), u4, u5, u6] [.inl 1] hi hr (zQ1v hr P)) :
    WP mX12_cuts 44 [some (.inr (some (37, 0))), some (.inl l1), some (.inl a2), some (.inl a3), u4, u5, u6] [] hi hr (zQ1v hr P) :=
  WP.iconst (pc2 := 45) (x := 1) rfl (by decide +kernel) (by decide) <|
  WP.goto (off := 4) (tgt := 49) (by decide +kernel) (by decide) <|
  F

set_option maxRecDepth 100000 in
set_option maxHeartbeats 4000000 in
theorem GX12_cuts_49 {hi : zI} {hr : zR} {P : zI → Prop} (l1 : Int) (a2 : Int) (a3 : Int) (u4 : Option zV) (u5 : Option zV) (u6 : Option zV) (s0 : Int) 
    (F : (a3 ≠ l1 → (WP mX12_cuts 68 [some (.inr (some (37, 0))), some (.inl l1), some (.inl a2), some (.inl a3), some (.inl s0), u5, u6] [] hi hr (zQ1v hr P))) ∧ (a3 = l1 → ((a2 ≠ 0 → (WP mX12_cuts 68 [some (.inr (some (37, 0))), some (.inl l1), some (.inl a2), some (.inl a3), some (.inl s0), u5, u6] [] hi hr (zQ1v hr P))) ∧ (a2 = 0 → ((hi 37 0 13 ≤ 0 → (WP mX12_cuts 68 [some (.inr (some (37, 0))), some (.inl l1), some (.inl a2), some (.inl a3), some (.inl s0), u5, u6] [] hi hr (zQ1v hr P))) ∧ (0 < hi 37 0 13 → P hi)))))) :
    WP mX12_cuts 49 [some (.inr (some (37, 0))), some (.inl l1), some (.inl a2), some (.inl a3), u4, u5, u6] [.inl s0] hi hr (zQ1v hr P) :=
  WP.istore (pc2 := 51) (i := 4) rfl (by decide +kernel) (by decide) <|
  WP.iload_n (pc2 := 52) (i := 3) rfl (by decide +kernel) rfl <|
  WP.iload_n (pc2 := 53) (i := 1) rfl (by decide +kernel) rfl <|
  WP.icmp_ne (pc2 := 56) (off := 15) (tgt := 68) rfl (by decide +kernel) (by decide) (fun h81 => have f82 := F.1 h81
  f82) (fun h81 => have f83 := F.2 h81
  WP.iload_n (pc2 := 57) (i := 2) rfl (by decide +kernel) rfl <|
  WP.if_ne (pc2 := 60) (off := 11) (tgt := 68) rfl (by decide +kernel) (by decide) (fun h78 => have f79 := f83.1 h78
  f79) (fun h78 => have f80 := f83.2 h78
  WP.aload_n (pc2 := 61) (i := 0) rfl (by decide +kernel) rfl <|
  WP.getI (pc2 := 64) rfl (by decide +kernel) zc_12 zSh_37 (by decide) rfl lf_X12_171 rfl rfl <|
  WP.if_le (pc2 := 67) (off := 4) (tgt := 68) rfl (by decide +kernel) (by decide) (fun h75 => have f76 := f80.1 h75
  f76) (fun h75 => have f77 := f80.2 h75
  WP.vret (by decide +kernel) rfl ⟨rfl, rfl, f77⟩)))

set_option maxRecDepth 100000 in
set_option maxHeartbeats 4000000 in
theorem GX12_cuts_68 {hi : zI} {hr : zR} {P : zI → Prop} (hM : RSm hr) (l1 : Int) (a2 : Int) (a3 : Int) (a4 : Int) (u5 : Option zV) (u6 : Option zV) 
    (F : (a4 = 0 → ((0 ≤ a3 ∧ a3 < 400) ∧ (W0i mX12_sort [.inl (zand (hi 38 0 a3) 255)] hi hr (fun (x84 : Int) => WP mX12_cuts 90 [some (.inr (some (37, 0))), some (.inl l1), some (.inl a2), some (.inl a3), some (.inl a4), u5, u6] [.inl x84] hi hr (zQ1v hr P))))) ∧ (a4 ≠ 0 → (WP mX12_cuts 90 [some (.inr (some (37, 0))), some (.inl l1), some (.inl a2), some (.inl a3), some (.inl a4), u5, u6] [.inl (-1)] hi hr (zQ1v hr P)))) :
    WP mX12_cuts 68 [some (.inr (some (37, 0))), some (.inl l1), some (.inl a2), some (.inl a3), some (.inl a4), u5, u6] [] hi hr (zQ1v hr P) :=
  WP.iload (pc2 := 70) (i := 4) rfl (by decide +kernel) rfl <|
  WP.if_eq (pc2 := 73) (off := 7) (tgt := 77) rfl (by decide +kernel) (by decide) (fun h86 => have f87 := F.1 h86
  WP.aload_n (pc2 := 78) (i := 0) rfl (by decide +kernel) rfl <|
  WP.getR (pc2 := 81) rfl (by decide +kernel) zc_12 zSh_37 (by decide) rfl lf_X12_13 rfl (rs_37_1 hM) <|
  WP.iload_n (pc2 := 82) (i := 3) rfl (by decide +kernel) rfl <|
  WP.baload (pc2 := 83) rfl (by decide +kernel) zSh_38 (by decide) rfl f87.1 rfl <|
  WP.sipush (pc2 := 86) (x := 255) rfl (by decide +kernel) ⟨by decide +kernel, by decide⟩ <|
  WP.iand (pc2 := 87) rfl (by decide +kernel) <|
  WP.callS (y := mX12_cuts) (index := 177) (pc2 := 90) (y' := mX12_sort) (vs := [.inl (zand (hi 38 0 a3) 255)]) rfl (by decide +kernel) okX12_sort ⟨by decide, by decide⟩ ⟨lm_X12_177, ivX12_sort⟩ (Nat.le_of_ble_eq_true rfl) ⟨rfl, rfl⟩ rfl (WP.c0i f87.2 (fun x84 _ f85 =>
  f85))) (fun h86 => have f88 := F.2 h86
  WP.iconst (pc2 := 74) (x := -1) rfl (by decide +kernel) (by decide) <|
  WP.goto (off := 16) (tgt := 90) (by decide +kernel) (by decide) <|
  f88)

set_option maxRecDepth 100000 in
set_option maxHeartbeats 4000000 in
theorem GX12_cuts_90 {hi : zI} {hr : zR} {P : zI → Prop} (l1 : Int) (a2 : Int) (a3 : Int) (a4 : Int) (u5 : Option zV) (u6 : Option zV) (s0 : Int) 
    (F : (a4 ≠ 0 → (WP mX12_cuts 112 [some (.inr (some (37, 0))), some (.inl l1), some (.inl a2), some (.inl a3), some (.inl a4), some (.inl s0), some (.inl 0)] [] hi hr (zQ1v hr P))) ∧ (a4 = 0 → ((s0 ≠ -1 → (WP mX12_cuts 112 [some (.inr (some (37, 0))), some (.inl l1), some (.inl a2), some (.inl a3), some (.inl a4), some (.inl s0), some (.inl 0)] [] hi hr (zQ1v hr P))) ∧ (s0 = -1 → (WP mX12_cuts 197 [some (.inr (some (37, 0))), some (.inl l1), some (.inl a2), some (.inl a3), some (.inl a4), some (.inl s0), some (.inl 1)] [] hi hr (zQ1v hr P)))))) :
    WP mX12_cuts 90 [some (.inr (some (37, 0))), some (.inl l1), some (.inl a2), some (.inl a3), some (.inl a4), u5, u6] [.inl s0] hi hr (zQ1v hr P) :=
  WP.istore (pc2 := 92) (i := 5) rfl (by decide +kernel) (by decide) <|
  WP.iconst (pc2 := 93) (x := 0) rfl (by decide +kernel) (by decide) <|
  WP.istore (pc2 := 95) (i := 6) rfl (by decide +kernel) (by decide) <|
  WP.iload (pc2 := 97) (i := 4) rfl (by decide +kernel) rfl <|
  WP.if_ne (pc2 := 100) (off := 15) (tgt := 112) rfl (by decide +kernel) (by decide) (fun h92 => have f93 := F.1 h92
  f93) (fun h92 => have f94 := F.2 h92
  WP.iload (pc2 := 102) (i := 5) rfl (by decide +kernel) rfl <|
  WP.iconst (pc2 := 103) (x := -1) rfl (by decide +kernel) (by decide) <|
  WP.icmp_ne (pc2 := 106) (off := 9) (tgt := 112) rfl (by decide +kernel) (by decide) (fun h89 => have f90 := f94.1 h89
  f90) (fun h89 => have f91 := f94.2 h89
  WP.iconst (pc2 := 107) (x := 1) rfl (by decide +kernel) (by decide) <|
  WP.istore (pc2 := 109) (i := 6) rfl (by decide +kernel) (by decide) <|
  WP.goto (off := 88) (tgt := 197) (by decide +kernel) (by decide) <|
  f91))

set_option maxRecDepth 100000 in
set_option maxHeartbeats 4000000 in
theorem GX12_cuts_232 {hi : zI} {hr : zR} {P : zI → Prop} (l1 : Int) (a2 : Int) (a3 : Int) (a4 : Int) (a5 : Int) (a6 : Int) 
    (F : (zInR ((hi 37 0 13) + 1)) ∧ (WP mX12_cuts 270 [some (.inr (some (37, 0))), some (.inl l1), some (.inl 0), some (.inl a3), some (.inl a4), some (.inl a5), some (.inl a6)] [] (zup hi 37 0 13 ((hi 37 0 13) + 1)) hr (zQ1v hr P))) :
    WP mX12_cuts 232 [some (.inr (some (37, 0))), some (.inl l1), some (.inl a2), some (.inl a3), some (.inl a4), some (.inl a5), some (.inl a6)] [] hi hr (zQ1v hr P) :=
  WP.aload_n (pc2 := 233) (i := 0) rfl (by decide +kernel) rfl <|
  WP.dup (pc2 := 234) rfl (by decide +kernel) <|
  WP.getI (pc2 := 237) rfl (by decide +kernel) zc_12 zSh_37 (by decide) rfl lf_X12_171 rfl rfl <|
  WP.iconst (pc2 := 238) (x := 1) rfl (by decide +kernel) (by decide) <|
  WP.iadd (pc2 := 239) rfl (by decide +kernel) F.1 <|
  WP.putI (pc2 := 242) rfl (by decide +kernel) zc_12 zSh_37 (by decide) rfl lf_X12_171 rfl (z_int _) rfl <|
  WP.iconst (pc2 := 243) (x := 0) rfl (by decide +kernel) (by decide) <|
  WP.istore_n (pc2 := 244) (i := 2) rfl (by decide +kernel) (by decide) <|
  WP.goto (off := 26) (tgt := 270) (by decide +kernel) (by decide) <|
  F.2

set_option maxRecDepth 100000 in
set_option maxHeartbeats 4000000 in
theorem GX12_cuts_183 {hi : zI} {hr : zR} {P : zI → Prop} (l1 : Int) (a2 : Int) (a3 : Int) (a4 : Int) (a5 : Int) (a6 : Int) 
    (F : (a4 ≠ 0 → (WP mX12_cuts 197 [some (.inr (some (37, 0))), some (.inl l1), some (.inl a2), some (.inl a3), some (.inl a4), some (.inl a5), some (.inl a6)] [] hi hr (zQ1v hr P))) ∧ (a4 = 0 → ((a2 ≠ 16 → (WP mX12_cuts 197 [some (.inr (some (37, 0))), some (.inl l1), some (.inl a2), some (.inl a3), some (.inl a4), some (.inl a5), some (.inl a6)] [] hi hr (zQ1v hr P))) ∧ (a2 = 16 → (WP mX12_cuts 194 [some (.inr (some (37, 0))), some (.inl l1), some (.inl a2), some (.inl a3), some (.inl a4), some (.inl a5), some (.inl a6)] [] hi hr (zQ1v hr P)))))) :
    WP mX12_cuts 183 [some (.inr (some (37, 0))), some (.inl l1), some (.inl a2), some (.inl a3), some (.inl a4), some (.inl a5), some (.inl a6)] [] hi hr (zQ1v hr P) :=
  WP.iload (pc2 := 185) (i := 4) rfl (by decide +kernel) rfl <|
  WP.if_ne (pc2 := 188) (off := 12) (tgt := 197) rfl (by decide +kernel) (by decide) (fun h98 => have f99 := F.1 h98
  f99) (fun h98 => have f100 := F.2 h98
  WP.iload_n (pc2 := 189) (i := 2) rfl (by decide +kernel) rfl <|
  WP.bipush (pc2 := 191) (x := 16) rfl (by decide +kernel) ⟨by decide +kernel, by decide⟩ <|
  WP.icmp_ne (pc2 := 194) (off := 6) (tgt := 197) rfl (by decide +kernel) (by decide) (fun h95 => have f96 := f100.1 h95
  f96) (fun h95 => have f97 := f100.2 h95
  f97))

set_option maxRecDepth 100000 in
set_option maxHeartbeats 4000000 in
theorem GX12_cuts_194 {hi : zI} {hr : zR} {P : zI → Prop} (l1 : Int) (a2 : Int) (a3 : Int) (a4 : Int) (a5 : Int) (a6 : Int) 
    (F : WP mX12_cuts 197 [some (.inr (some (37, 0))), some (.inl l1), some (.inl a2), some (.inl a3), some (.inl a4), some (.inl a5), some (.inl 3)] [] hi hr (zQ1v hr P)) :
    WP mX12_cuts 194 [some (.inr (some (37, 0))), some (.inl l1), some (.inl a2), some (.inl a3), some (.inl a4), some (.inl a5), some (.inl a6)] [] hi hr (zQ1v hr P) :=
  WP.iconst (pc2 := 195) (x := 3) rfl (by decide +kernel) (by decide) <|
  WP.istore (pc2 := 197) (i := 6) rfl (by decide +kernel) (by decide) <|
  F
set_option maxRecDepth 100000 in
set_option maxHeartbeats 4000000 in
theorem GX12_apart {hi : zI} {hr : zR} {P : Int → zI → Prop}  
    (F : (zInR ((hi 37 0 13) * (hi 37 0 14))) ∧ (WP mX12_apart 12 [some (.inr (some (37, 0))), some (.inl ((hi 37 0 13) * (hi 37 0 14))), some (.inl 0), none, none, none, none, none, none, none] [] hi hr (zQ1i hr P))) :
    W1i mX12_apart [.inr (some (37, 0))] hi hr P :=
  WPm.of rfl (show WP mX12_apart 0 [some (.inr (some (37, 0))), none, none, none, none, none, none, none, none, none] [] hi hr (zQ1i hr P) from
  WP.aload_n (pc2 := 1) (i := 0) rfl (by decide +kernel) rfl <|
  WP.getI (pc2 := 4) rfl (by decide +kernel) zc_12 zSh_37 (by decide) rfl lf_X12_171 rfl rfl <|
  WP.aload_n (pc2 := 5) (i := 0) rfl (by decide +kernel) rfl <|
  WP.getI (pc2 := 8) rfl (by decide +kernel) zc_12 zSh_37 (by decide) rfl lf_X12_174 rfl rfl <|
  WP.imul (pc2 := 9) rfl (by decide +kernel) F.1 <|
  WP.istore_n (pc2 := 10) (i := 1) rfl (by decide +kernel) (by decide) <|
  WP.iconst (pc2 := 11) (x := 0) rfl (by decide +kernel) (by decide) <|
  WP.istore_n (pc2 := 12) (i := 2) rfl (by decide +kernel) (by decide) <|
  F.2)

set_option maxRecDepth 100000 in
set_option maxHeartbeats 4000000 in
theorem GX12_apart_133 {hi : zI} {hr : zR} {P : Int → zI → Prop} (a1 : Int) (a2 : Int) (a3 : Int) (a4 : Int) (a5 : Int) (a6 : Int) (a7 : Int) (u8 : Option zV) (u9 : Option zV) 
    (F : (4 ≤ a7 → (WP mX12_apart 76 [some (.inr (some (37, 0))), some (.inl a1), some (.inl a2), some (.inl a3), some (.inl a4), some (.inl a5), some (.inl a6), some (.inl a7), u8, u9] [] hi hr (zQ1i hr P))) ∧ (a7 < 4 → ((a7 ≠ 0 → ((a7 ≠ 2 → (WP mX12_apart 161 [some (.inr (some (37, 0))), some (.inl a1), some (.inl a2), some (.inl a3), some (.inl a4), some (.inl a5), some (.inl a6), some (.inl a7), u8, u9] [.inl 0, .inl a5] hi hr (zQ1i hr P))) ∧ (a7 = 2 → (WP mX12_apart 161 [some (.inr (some (37, 0))), some (.inl a1), some (.inl a2), some (.inl a3), some (.inl a4), some (.inl a5), some (.inl a6), some (.inl a7), u8, u9] [.inl 1, .inl a5] hi hr (zQ1i hr P))))) ∧ (a7 = 0 → (WP mX12_apart 161 [some (.inr (some (37, 0))), some (.inl a1), some (.inl a2), some (.inl a3), some (.inl a4), some (.inl a5), some (.inl a6), some (.inl a7), u8, u9] [.inl (-1), .inl a5] hi hr (zQ1i hr P)))))) :
    WP mX12_apart 133 [some (.inr (some (37, 0))), some (.inl a1), some (.inl a2), some (.inl a3), some (.inl a4), some (.inl a5), some (.inl a6), some (.inl a7), u8, u9] [] hi hr (zQ1i hr P) :=
  WP.iload (pc2 := 135) (i := 7) rfl (by decide +kernel) rfl <|
  WP.iconst (pc2 := 136) (x := 4) rfl (by decide +kernel) (by decide) <|
  WP.icmp_ge (pc2 := 139) (off := 127) (tgt := 263) rfl (by decide +kernel) (by decide) (fun h118 => have f119 := F.1 h118
  WP.goto (off := -187) (tgt := 76) (by decide +kernel) (by decide) <|
  f119) (fun h118 => have f120 := F.2 h118
  WP.iload (pc2 := 141) (i := 5) rfl (by decide +kernel) rfl <|
  WP.iload (pc2 := 143) (i := 7) rfl (by decide +kernel) rfl <|
  WP.if_ne (pc2 := 146) (off := 7) (tgt := 150) rfl (by decide +kernel) (by decide) (fun h115 => have f116 := f120.1 h115
  WP.iload (pc2 := 152) (i := 7) rfl (by decide +kernel) rfl <|
  WP.iconst (pc2 := 153) (x := 2) rfl (by decide +kernel) (by decide) <|
  WP.icmp_ne (pc2 := 156) (off := 7) (tgt := 160) rfl (by decide +kernel) (by decide) (fun h112 => have f113 := f116.1 h112
  WP.iconst (pc2 := 161) (x := 0) rfl (by decide +kernel) (by decide) <|
  f113) (fun h112 => have f114 := f116.2 h112
  WP.iconst (pc2 := 157) (x := 1) rfl (by decide +kernel) (by decide) <|
  WP.goto (off := 4) (tgt := 161) (by decide +kernel) (by decide) <|
  f114)) (fun h115 => have f117 := f120.2 h115
  WP.iconst (pc2 := 147) (x := -1) rfl (by decide +kernel) (by decide) <|
  WP.goto (off := 14) (tgt := 161) (by decide +kernel) (by decide) <|
  f117))

set_option maxRecDepth 100000 in
set_option maxHeartbeats 4000000 in
theorem GX12_apart_76 {hi : zI} {hr : zR} {P : Int → zI → Prop} (hM : RSm hr) (a1 : Int) (a2 : Int) (a3 : Int) (u4 : Option zV) (u5 : Option zV) (u6 : Option zV) (u7 : Option zV) (u8 : Option zV) (u9 : Option zV) 
    (F : (a3 ≤ 0 → ((zInR (a2 + 1)) ∧ (WP mX12_apart 271 [some (.inr (some (37, 0))), some (.inl a1), some (.inl a2), some (.inl a3), some (.inl (a2 + 1)), u5, u6, u7, u8, u9] [] hi hr (zQ1i hr P)))) ∧ (0 < a3 → ((zInR (a3 + (-1))) ∧ ((0 ≤ a3 + (-1) ∧ a3 + (-1) < 256) ∧ ((0 ≤ hi 44 0 (a3 + (-1)) ∧ 0 < hi 37 0 14) ∧ ((0 ≤ hi 44 0 (a3 + (-1)) ∧ 0 < hi 37 0 14) ∧ ((hi 44 0 (a3 + (-1)) = a2 → (WP mX12_apart 133 [some (.inr (some (37, 0))), some (.inl a1), some (.inl a2), some (.inl (a3 + (-1))), some (.inl (hi 44 0 (a3 + (-1)))), some (.inl ((hi 44 0 (a3 + (-1))) / (hi 37 0 14))), some (.inl ((hi 44 0 (a3 + (-1))) % (hi 37 0 14))), some (.inl 0), u8, u9] [] hi hr (zQ1i hr P))) ∧ (hi 44 0 (a3 + (-1)) ≠ a2 → (W0i mX12_readAt [.inr (some (37, 0)), .inl ((hi 44 0 (a3 + (-1))) / (hi 37 0 14)), .inl ((hi 44 0 (a3 + (-1))) % (hi 37 0 14))] hi hr (fun (x121 : Int) => (x121 < 2 → (WP mX12_apart 133 [some (.inr (some (37, 0))), some (.inl a1), some (.inl a2), some (.inl (a3 + (-1))), some (.inl (hi 44 0 (a3 + (-1)))), some (.inl ((hi 44 0 (a3 + (-1))) / (hi 37 0 14))), some (.inl ((hi 44 0 (a3 + (-1))) % (hi 37 0 14))), some (.inl 0), u8, u9] [] hi hr (zQ1i hr P))) ∧ (2 ≤ x121 → (WP mX12_apart 76 [some (.inr (some (37, 0))), some (.inl a1), some (.inl a2), some (.inl (a3 + (-1))), some (.inl (hi 44 0 (a3 + (-1)))), some (.inl ((hi 44 0 (a3 + (-1))) / (hi 37 0 14))), some (.inl ((hi 44 0 (a3 + (-1))) % (hi 37 0 14))), u7, u8, u9] [] hi hr (zQ1i hr P))))))))))))) :
    WP mX12_apart 76 [some (.inr (some (37, 0))), some (.inl a1), some (.inl a2), some (.inl a3), u4, u5, u6, u7, u8, u9] [] hi hr (zQ1i hr P) :=
  WP.iload_n (pc2 := 77) (i := 3) rfl (by decide +kernel) rfl <|
  WP.if_le (pc2 := 80) (off := 189) (tgt := 266) rfl (by decide +kernel) (by decide) (fun h129 => have f130 := F.1 h129
  WP.iload_n (pc2 := 267) (i := 2) rfl (by decide +kernel) rfl <|
  WP.iconst (pc2 := 268) (x := 1) rfl (by decide +kernel) (by decide) <|
  WP.iadd (pc2 := 269) rfl (by decide +kernel) f130.1 <|
  WP.istore (pc2 := 271) (i := 4) rfl (by decide +kernel) (by decide) <|
  f130.2) (fun h129 => have f131 := F.2 h129
  WP.iinc (pc2 := 83) (i := 3) (d := -1) rfl (by decide +kernel) rfl f131.1 <|
  WP.aload_n (pc2 := 84) (i := 0) rfl (by decide +kernel) rfl <|
  WP.getR (pc2 := 87) rfl (by decide +kernel) zc_12 zSh_37 (by decide) rfl lf_X12_37 rfl (rs_37_16 hM) <|
  WP.iload_n (pc2 := 88) (i := 3) rfl (by decide +kernel) rfl <|
  WP.iaload (pc2 := 89) rfl (by decide +kernel) zSh_44 rfl f131.2.1 rfl <|
  WP.istore (pc2 := 91) (i := 4) rfl (by decide +kernel) (by decide) <|
  WP.iload (pc2 := 93) (i := 4) rfl (by decide +kernel) rfl <|
  WP.aload_n (pc2 := 94) (i := 0) rfl (by decide +kernel) rfl <|
  WP.getI (pc2 := 97) rfl (by decide +kernel) zc_12 zSh_37 (by decide) rfl lf_X12_174 rfl rfl <|
  WP.idiv (pc2 := 98) rfl (by decide +kernel) f131.2.2.1.1 f131.2.2.1.2 <|
  WP.istore (pc2 := 100) (i := 5) rfl (by decide +kernel) (by decide) <|
  WP.iload (pc2 := 102) (i := 4) rfl (by decide +kernel) rfl <|
  WP.aload_n (pc2 := 103) (i := 0) rfl (by decide +kernel) rfl <|
  WP.getI (pc2 := 106) rfl (by decide +kernel) zc_12 zSh_37 (by decide) rfl lf_X12_174 rfl rfl <|
  WP.irem (pc2 := 107) rfl (by decide +kernel) f131.2.2.2.1.1 f131.2.2.2.1.2 <|
  WP.istore (pc2 := 109) (i := 6) rfl (by decide +kernel) (by decide) <|
  WP.iload (pc2 := 111) (i := 4) rfl (by decide +kernel) rfl <|
  WP.iload_n (pc2 := 112) (i := 2) rfl (by decide +kernel) rfl <|
  WP.icmp_eq (pc2 := 115) (off := 18) (tgt := 130) rfl (by decide +kernel) (by decide) (fun h126 => have f127 := f131.2.2.2.2.1 h126
  WP.iconst (pc2 := 131) (x := 0) rfl (by decide +kernel) (by decide) <|
  WP.istore (pc2 := 133) (i := 7) rfl (by decide +kernel) (by decide) <|
  f127) (fun h126 => have f128 := f131.2.2.2.2.2 h126
  WP.aload_n (pc2 := 116) (i := 0) rfl (by decide +kernel) rfl <|
  WP.iload (pc2 := 118) (i := 5) rfl (by decide +kernel) rfl <|
  WP.iload (pc2 := 120) (i := 6) rfl (by decide +kernel) rfl <|
  WP.callV (y := mX12_apart) (index := 188) (pc2 := 123) (y' := mX12_readAt) (vs := [.inl ((hi 44 0 (a3 + (-1))) / (hi 37 0 14)), .inl ((hi 44 0 (a3 + (-1))) % (hi 37 0 14))]) rfl (by decide +kernel) okX12_readAt ⟨by decide, by decide⟩ ⟨lm_X12_188, ivX12_readAt⟩ zSh_37 zc_12 (Nat.le_of_ble_eq_true rfl) ⟨rfl, rfl⟩ rfl (WP.c0i f128 (fun x121 _ f125 =>
  WP.iconst (pc2 := 124) (x := 2) rfl (by decide +kernel) (by decide) <|
  WP.icmp_lt (pc2 := 127) (off := 6) (tgt := 130) rfl (by decide +kernel) (by decide) (fun h122 => have f123 := f125.1 h122
  WP.iconst (pc2 := 131) (x := 0) rfl (by decide +kernel) (by decide) <|
  WP.istore (pc2 := 133) (i := 7) rfl (by decide +kernel) (by decide) <|
  f123) (fun h122 => have f124 := f125.2 h122
  WP.goto (off := -51) (tgt := 76) (by decide +kernel) (by decide) <|
  f124)))))

set_option maxRecDepth 100000 in
set_option maxHeartbeats 4000000 in
theorem GX12_apart_271 {hi : zI} {hr : zR} {P : Int → zI → Prop} (hM : RSm hr) (a1 : Int) (a2 : Int) (a3 : Int) (a4 : Int) (u5 : Option zV) (u6 : Option zV) (u7 : Option zV) (u8 : Option zV) (u9 : Option zV) 
    (F : (a1 ≤ a4 → ((zInR (a2 + 1)) ∧ (WP mX12_apart 12 [some (.inr (some (37, 0))), some (.inl a1), some (.inl (a2 + 1)), some (.inl a3), some (.inl a4), u5, u6, u7, u8, u9] [] hi hr (zQ1i hr P)))) ∧ (a4 < a1 → ((0 ≤ a4 ∧ 0 < hi 37 0 14) ∧ ((0 ≤ a4 ∧ 0 < hi 37 0 14) ∧ (W0i mX12_readAt [.inr (some (37, 0)), .inl (a4 / (hi 37 0 14)), .inl (a4 % (hi 37 0 14))] hi hr (fun (x132 : Int) => (x132 < 2 → ((zInR (a4 + 1)) ∧ (WP mX12_apart 271 [some (.inr (some (37, 0))), some (.inl a1), some (.inl a2), some (.inl a3), some (.inl (a4 + 1)), u5, u6, u7, u8, u9] [] hi hr (zQ1i hr P)))) ∧ (2 ≤ x132 → ((0 ≤ a4 ∧ a4 < 256) ∧ ((hi 43 0 a4 ≠ 0 → ((zInR (a4 + 1)) ∧ (WP mX12_apart 271 [some (.inr (some (37, 0))), some (.inl a1), some (.inl a2), some (.inl a3), some (.inl (a4 + 1)), u5, u6, u7, u8, u9] [] hi hr (zQ1i hr P)))) ∧ (hi 43 0 a4 = 0 → P a2 hi)))))))))) :
    WP mX12_apart 271 [some (.inr (some (37, 0))), some (.inl a1), some (.inl a2), some (.inl a3), some (.inl a4), u5, u6, u7, u8, u9] [] hi hr (zQ1i hr P) :=
  WP.iload (pc2 := 273) (i := 4) rfl (by decide +kernel) rfl <|
  WP.iload_n (pc2 := 274) (i := 1) rfl (by decide +kernel) rfl <|
  WP.icmp_ge (pc2 := 277) (off := 43) (tgt := 317) rfl (by decide +kernel) (by decide) (fun h140 => have f141 := F.1 h140
  WP.iinc (pc2 := 320) (i := 2) (d := 1) rfl (by decide +kernel) rfl f141.1 <|
  WP.goto (off := -308) (tgt := 12) (by decide +kernel) (by decide) <|
  f141.2) (fun h140 => have f142 := F.2 h140
  WP.aload_n (pc2 := 278) (i := 0) rfl (by decide +kernel) rfl <|
  WP.iload (pc2 := 280) (i := 4) rfl (by decide +kernel) rfl <|
  WP.aload_n (pc2 := 281) (i := 0) rfl (by decide +kernel) rfl <|
  WP.getI (pc2 := 284) rfl (by decide +kernel) zc_12 zSh_37 (by decide) rfl lf_X12_174 rfl rfl <|
  WP.idiv (pc2 := 285) rfl (by decide +kernel) f142.1.1 f142.1.2 <|
  WP.iload (pc2 := 287) (i := 4) rfl (by decide +kernel) rfl <|
  WP.aload_n (pc2 := 288) (i := 0) rfl (by decide +kernel) rfl <|
  WP.getI (pc2 := 291) rfl (by decide +kernel) zc_12 zSh_37 (by decide) rfl lf_X12_174 rfl rfl <|
  WP.irem (pc2 := 292) rfl (by decide +kernel) f142.2.1.1 f142.2.1.2 <|
  WP.callV (y := mX12_apart) (index := 188) (pc2 := 295) (y' := mX12_readAt) (vs := [.inl (a4 / (hi 37 0 14)), .inl (a4 % (hi 37 0 14))]) rfl (by decide +kernel) okX12_readAt ⟨by decide, by decide⟩ ⟨lm_X12_188, ivX12_readAt⟩ zSh_37 zc_12 (Nat.le_of_ble_eq_true rfl) ⟨rfl, rfl⟩ rfl (WP.c0i f142.2.2 (fun x132 _ f139 =>
  WP.iconst (pc2 := 296) (x := 2) rfl (by decide +kernel) (by decide) <|
  WP.icmp_lt (pc2 := 299) (off := 15) (tgt := 311) rfl (by decide +kernel) (by decide) (fun h136 => have f137 := f139.1 h136
  WP.iinc (pc2 := 314) (i := 4) (d := 1) rfl (by decide +kernel) rfl f137.1 <|
  WP.goto (off := -43) (tgt := 271) (by decide +kernel) (by decide) <|
  f137.2) (fun h136 => have f138 := f139.2 h136
  WP.aload_n (pc2 := 300) (i := 0) rfl (by decide +kernel) rfl <|
  WP.getR (pc2 := 303) rfl (by decide +kernel) zc_12 zSh_37 (by decide) rfl lf_X12_33 rfl (rs_37_15 hM) <|
  WP.iload (pc2 := 305) (i := 4) rfl (by decide +kernel) rfl <|
  WP.baload (pc2 := 306) rfl (by decide +kernel) zSh_43 (by decide) rfl f138.1 rfl <|
  WP.if_ne (pc2 := 309) (off := 5) (tgt := 311) rfl (by decide +kernel) (by decide) (fun h133 => have f134 := f138.2.1 h133
  WP.iinc (pc2 := 314) (i := 4) (d := 1) rfl (by decide +kernel) rfl f134.1 <|
  WP.goto (off := -43) (tgt := 271) (by decide +kernel) (by decide) <|
  f134.2) (fun h133 => have f135 := f138.2.2 h133
  WP.iload_n (pc2 := 310) (i := 2) rfl (by decide +kernel) rfl <|
  WP.iret (by decide +kernel) rfl (fun hx => ⟨_, rfl, hx, rfl, f135⟩))))))

set_option maxRecDepth 100000 in
set_option maxHeartbeats 4000000 in
theorem GX12_apart_12 {hi : zI} {hr : zR} {P : Int → zI → Prop} (a1 : Int) (a2 : Int) (u3 : Option zV) (u4 : Option zV) (u5 : Option zV) (u6 : Option zV) (u7 : Option zV) (u8 : Option zV) (u9 : Option zV) 
    (F : (a1 ≤ a2 → (P (-1) hi)) ∧ (a2 < a1 → ((0 ≤ a2 ∧ 0 < hi 37 0 14) ∧ ((0 ≤ a2 ∧ 0 < hi 37 0 14) ∧ (W0i mX12_readAt [.inr (some (37, 0)), .inl (a2 / (hi 37 0 14)), .inl (a2 % (hi 37 0 14))] hi hr (fun (x143 : Int) => (2 ≤ x143 → (WP mX12_apart 42 [some (.inr (some (37, 0))), some (.inl a1), some (.inl a2), some (.inl 0), u4, u5, u6, u7, u8, u9] [] hi hr (zQ1i hr P))) ∧ (x143 < 2 → ((zInR (a2 + 1)) ∧ (WP mX12_apart 12 [some (.inr (some (37, 0))), some (.inl a1), some (.inl (a2 + 1)), u3, u4, u5, u6, u7, u8, u9] [] hi hr (zQ1i hr P)))))))))) :
    WP mX12_apart 12 [some (.inr (some (37, 0))), some (.inl a1), some (.inl a2), u3, u4, u5, u6, u7, u8, u9] [] hi hr (zQ1i hr P) :=
  WP.iload_n (pc2 := 13) (i := 2) rfl (by decide +kernel) rfl <|
  WP.iload_n (pc2 := 14) (i := 1) rfl (by decide +kernel) rfl <|
  WP.icmp_ge (pc2 := 17) (off := 309) (tgt := 323) rfl (by decide +kernel) (by decide) (fun h148 => have f149 := F.1 h148
  WP.iconst (pc2 := 324) (x := -1) rfl (by decide +kernel) (by decide) <|
  WP.iret (by decide +kernel) rfl (fun hx => ⟨_, rfl, hx, rfl, f149⟩)) (fun h148 => have f150 := F.2 h148
  WP.aload_n (pc2 := 18) (i := 0) rfl (by decide +kernel) rfl <|
  WP.iload_n (pc2 := 19) (i := 2) rfl (by decide +kernel) rfl <|
  WP.aload_n (pc2 := 20) (i := 0) rfl (by decide +kernel) rfl <|
  WP.getI (pc2 := 23) rfl (by decide +kernel) zc_12 zSh_37 (by decide) rfl lf_X12_174 rfl rfl <|
  WP.idiv (pc2 := 24) rfl (by decide +kernel) f150.1.1 f150.1.2 <|
  WP.iload_n (pc2 := 25) (i := 2) rfl (by decide +kernel) rfl <|
  WP.aload_n (pc2 := 26) (i := 0) rfl (by decide +kernel) rfl <|
  WP.getI (pc2 := 29) rfl (by decide +kernel) zc_12 zSh_37 (by decide) rfl lf_X12_174 rfl rfl <|
  WP.irem (pc2 := 30) rfl (by decide +kernel) f150.2.1.1 f150.2.1.2 <|
  WP.callV (y := mX12_apart) (index := 188) (pc2 := 33) (y' := mX12_readAt) (vs := [.inl (a2 / (hi 37 0 14)), .inl (a2 % (hi 37 0 14))]) rfl (by decide +kernel) okX12_readAt ⟨by decide, by decide⟩ ⟨lm_X12_188, ivX12_readAt⟩ zSh_37 zc_12 (Nat.le_of_ble_eq_true rfl) ⟨rfl, rfl⟩ rfl (WP.c0i f150.2.2 (fun x143 _ f147 =>
  WP.iconst (pc2 := 34) (x := 2) rfl (by decide +kernel) (by decide) <|
  WP.icmp_ge (pc2 := 37) (off := 6) (tgt := 40) rfl (by decide +kernel) (by decide) (fun h144 => have f145 := f147.1 h144
  WP.iconst (pc2 := 41) (x := 0) rfl (by decide +kernel) (by decide) <|
  WP.istore_n (pc2 := 42) (i := 3) rfl (by decide +kernel) (by decide) <|
  f145) (fun h144 => have f146 := f147.2 h144
  WP.goto (off := 280) (tgt := 317) (by decide +kernel) (by decide) <|
  WP.iinc (pc2 := 320) (i := 2) (d := 1) rfl (by decide +kernel) rfl f146.1 <|
  WP.goto (off := -308) (tgt := 12) (by decide +kernel) (by decide) <|
  f146.2))))

set_option maxRecDepth 100000 in
set_option maxHeartbeats 4000000 in
theorem GX12_apart_42 {hi : zI} {hr : zR} {P : Int → zI → Prop} (hM : RSm hr) (a1 : Int) (a2 : Int) (a3 : Int) (u4 : Option zV) (u5 : Option zV) (u6 : Option zV) (u7 : Option zV) (u8 : Option zV) (u9 : Option zV) 
    (F : (a1 ≤ a3 → ((0 ≤ a2 ∧ a2 < 256) ∧ (WP mX12_apart 76 [some (.inr (some (37, 0))), some (.inl a1), some (.inl a2), some (.inl 1), u4, u5, u6, u7, u8, u9] [] (zup (zup hi 44 0 0 a2) 43 0 a2 1) hr (zQ1i hr P)))) ∧ (a3 < a1 → ((0 ≤ a3 ∧ a3 < 256) ∧ ((zInR (a3 + 1)) ∧ (WP mX12_apart 42 [some (.inr (some (37, 0))), some (.inl a1), some (.inl a2), some (.inl (a3 + 1)), u4, u5, u6, u7, u8, u9] [] (zup hi 43 0 a3 0) hr (zQ1i hr P)))))) :
    WP mX12_apart 42 [some (.inr (some (37, 0))), some (.inl a1), some (.inl a2), some (.inl a3), u4, u5, u6, u7, u8, u9] [] hi hr (zQ1i hr P) :=
  WP.iload_n (pc2 := 43) (i := 3) rfl (by decide +kernel) rfl <|
  WP.iload_n (pc2 := 44) (i := 1) rfl (by decide +kernel) rfl <|
  WP.icmp_ge (pc2 := 47) (off := 16) (tgt := 60) rfl (by decide +kernel) (by decide) (fun h151 => have f152 := F.1 h151
  WP.iconst (pc2 := 61) (x := 1) rfl (by decide +kernel) (by decide) <|
  WP.istore_n (pc2 := 62) (i := 3) rfl (by decide +kernel) (by decide) <|
  WP.aload_n (pc2 := 63) (i := 0) rfl (by decide +kernel) rfl <|
  WP.getR (pc2 := 66) rfl (by decide +kernel) zc_12 zSh_37 (by decide) rfl lf_X12_37 rfl (rs_37_16 hM) <|
  WP.iconst (pc2 := 67) (x := 0) rfl (by decide +kernel) (by decide) <|
  WP.iload_n (pc2 := 68) (i := 2) rfl (by decide +kernel) rfl <|
  WP.iastore (pc2 := 69) rfl (by decide +kernel) zSh_44 rfl (by decide) <|
  WP.aload_n (pc2 := 70) (i := 0) rfl (by decide +kernel) rfl <|
  WP.getR (pc2 := 73) rfl (by decide +kernel) zc_12 zSh_37 (by decide) rfl lf_X12_33 rfl (rs_37_15 hM) <|
  WP.iload_n (pc2 := 74) (i := 2) rfl (by decide +kernel) rfl <|
  WP.iconst (pc2 := 75) (x := 1) rfl (by decide +kernel) (by decide) <|
  WP.bastore (pc2 := 76) rfl (by decide +kernel) zSh_43 (Or.inr ⟨rfl, by decide, by decide⟩) rfl f152.1 <|
  f152.2) (fun h151 => have f153 := F.2 h151
  WP.aload_n (pc2 := 48) (i := 0) rfl (by decide +kernel) rfl <|
  WP.getR (pc2 := 51) rfl (by decide +kernel) zc_12 zSh_37 (by decide) rfl lf_X12_33 rfl (rs_37_15 hM) <|
  WP.iload_n (pc2 := 52) (i := 3) rfl (by decide +kernel) rfl <|
  WP.iconst (pc2 := 53) (x := 0) rfl (by decide +kernel) (by decide) <|
  WP.bastore (pc2 := 54) rfl (by decide +kernel) zSh_43 (Or.inr ⟨rfl, by decide, by decide⟩) rfl f153.1 <|
  WP.iinc (pc2 := 57) (i := 3) (d := 1) rfl (by decide +kernel) rfl f153.2.1 <|
  WP.goto (off := -15) (tgt := 42) (by decide +kernel) (by decide) <|
  f153.2.2)

set_option maxRecDepth 100000 in
set_option maxHeartbeats 4000000 in
theorem GX12_apart_161 {hi : zI} {hr : zR} {P : Int → zI → Prop} (a1 : Int) (a2 : Int) (a3 : Int) (a4 : Int) (a5 : Int) (a6 : Int) (a7 : Int) (u8 : Option zV) (u9 : Option zV) (s0 : Int) (s1 : Int) 
    (F : (zInR (s1 + s0)) ∧ ((a7 ≠ 1 → ((a7 ≠ 3 → (WP mX12_apart 187 [some (.inr (some (37, 0))), some (.inl a1), some (.inl a2), some (.inl a3), some (.inl a4), some (.inl a5), some (.inl a6), some (.inl a7), some (.inl (s1 + s0)), u9] [.inl 0, .inl a6] hi hr (zQ1i hr P))) ∧ (a7 = 3 → (WP mX12_apart 187 [some (.inr (some (37, 0))), some (.inl a1), some (.inl a2), some (.inl a3), some (.inl a4), some (.inl a5), some (.inl a6), some (.inl a7), some (.inl (s1 + s0)), u9] [.inl (-1), .inl a6] hi hr (zQ1i hr P))))) ∧ (a7 = 1 → (WP mX12_apart 187 [some (.inr (some (37, 0))), some (.inl a1), some (.inl a2), some (.inl a3), some (.inl a4), some (.inl a5), some (.inl a6), some (.inl a7), some (.inl (s1 + s0)), u9] [.inl 1, .inl a6] hi hr (zQ1i hr P))))) :
    WP mX12_apart 161 [some (.inr (some (37, 0))), some (.inl a1), some (.inl a2), some (.inl a3), some (.inl a4), some (.inl a5), some (.inl a6), some (.inl a7), u8, u9] [.inl s0, .inl s1] hi hr (zQ1i hr P) :=
  WP.iadd (pc2 := 162) rfl (by decide +kernel) F.1 <|
  WP.istore (pc2 := 164) (i := 8) rfl (by decide +kernel) (by decide) <|
  WP.iload (pc2 := 166) (i := 6) rfl (by decide +kernel) rfl <|
  WP.iload (pc2 := 168) (i := 7) rfl (by decide +kernel) rfl <|
  WP.iconst (pc2 := 169) (x := 1) rfl (by decide +kernel) (by decide) <|
  WP.icmp_ne (pc2 := 172) (off := 7) (tgt := 176) rfl (by decide +kernel) (by decide) (fun h157 => have f158 := F.2.1 h157
  WP.iload (pc2 := 178) (i := 7) rfl (by decide +kernel) rfl <|
  WP.iconst (pc2 := 179) (x := 3) rfl (by decide +kernel) (by decide) <|
  WP.icmp_ne (pc2 := 182) (off := 7) (tgt := 186) rfl (by decide +kernel) (by decide) (fun h154 => have f155 := f158.1 h154
  WP.iconst (pc2 := 187) (x := 0) rfl (by decide +kernel) (by decide) <|
  f155) (fun h154 => have f156 := f158.2 h154
  WP.iconst (pc2 := 183) (x := -1) rfl (by decide +kernel) (by decide) <|
  WP.goto (off := 4) (tgt := 187) (by decide +kernel) (by decide) <|
  f156)) (fun h157 => have f159 := F.2.2 h157
  WP.iconst (pc2 := 173) (x := 1) rfl (by decide +kernel) (by decide) <|
  WP.goto (off := 14) (tgt := 187) (by decide +kernel) (by decide) <|
  f159)

set_option maxRecDepth 100000 in
set_option maxHeartbeats 4000000 in
theorem GX12_apart_187 {hi : zI} {hr : zR} {P : Int → zI → Prop} (hM : RSm hr) (a1 : Int) (a2 : Int) (a3 : Int) (a4 : Int) (a5 : Int) (a6 : Int) (a7 : Int) (a8 : Int) (u9 : Option zV) (s0 : Int) (s1 : Int) 
    (F : (zInR (s1 + s0)) ∧ (W0i mX12_readAt [.inr (some (37, 0)), .inl a8, .inl (s1 + s0)] hi hr (fun (x160 : Int) => (x160 = 0 → ((zInR (a7 + 1)) ∧ (WP mX12_apart 133 [some (.inr (some (37, 0))), some (.inl a1), some (.inl a2), some (.inl a3), some (.inl a4), some (.inl a5), some (.inl a6), some (.inl (a7 + 1)), some (.inl a8), some (.inl (s1 + s0))] [] hi hr (zQ1i hr P)))) ∧ (x160 ≠ 0 → ((zInR (a8 * (hi 37 0 14))) ∧ ((zInR ((a8 * (hi 37 0 14)) + (s1 + s0))) ∧ ((0 ≤ (a8 * (hi 37 0 14)) + (s1 + s0) ∧ (a8 * (hi 37 0 14)) + (s1 + s0) < 256) ∧ ((hi 43 0 ((a8 * (hi 37 0 14)) + (s1 + s0)) = 0 → ((zInR (a8 * (hi 37 0 14))) ∧ ((zInR ((a8 * (hi 37 0 14)) + (s1 + s0))) ∧ ((0 ≤ (a8 * (hi 37 0 14)) + (s1 + s0) ∧ (a8 * (hi 37 0 14)) + (s1 + s0) < 256) ∧ ((zInR (a8 * (hi 37 0 14))) ∧ ((zInR ((a8 * (hi 37 0 14)) + (s1 + s0))) ∧ ((0 ≤ a3 ∧ a3 < 256) ∧ ((zInR (a3 + 1)) ∧ ((zInR (a7 + 1)) ∧ (WP mX12_apart 133 [some (.inr (some (37, 0))), some (.inl a1), some (.inl a2), some (.inl (a3 + 1)), some (.inl a4), some (.inl a5), some (.inl a6), some (.inl (a7 + 1)), some (.inl a8), some (.inl (s1 + s0))] [] (zup (zup hi 43 0 ((a8 * (hi 37 0 14)) + (s1 + s0)) 1) 44 0 a3 ((a8 * (hi 37 0 14)) + (s1 + s0))) hr (zQ1i hr P))))))))))) ∧ (hi 43 0 ((a8 * (hi 37 0 14)) + (s1 + s0)) ≠ 0 → ((zInR (a7 + 1)) ∧ (WP mX12_apart 133 [some (.inr (some (37, 0))), some (.inl a1), some (.inl a2), some (.inl a3), some (.inl a4), some (.inl a5), some (.inl a6), some (.inl (a7 + 1)), some (.inl a8), some (.inl (s1 + s0))] [] hi hr (zQ1i hr P)))))))))))) :
    WP mX12_apart 187 [some (.inr (some (37, 0))), some (.inl a1), some (.inl a2), some (.inl a3), some (.inl a4), some (.inl a5), some (.inl a6), some (.inl a7), some (.inl a8), u9] [.inl s0, .inl s1] hi hr (zQ1i hr P) :=
  WP.iadd (pc2 := 188) rfl (by decide +kernel) F.1 <|
  WP.istore (pc2 := 190) (i := 9) rfl (by decide +kernel) (by decide) <|
  WP.aload_n (pc2 := 191) (i := 0) rfl (by decide +kernel) rfl <|
  WP.iload (pc2 := 193) (i := 8) rfl (by decide +kernel) rfl <|
  WP.iload (pc2 := 195) (i := 9) rfl (by decide +kernel) rfl <|
  WP.callV (y := mX12_apart) (index := 188) (pc2 := 198) (y' := mX12_readAt) (vs := [.inl a8, .inl (s1 + s0)]) rfl (by decide +kernel) okX12_readAt ⟨by decide, by decide⟩ ⟨lm_X12_188, ivX12_readAt⟩ zSh_37 zc_12 (Nat.le_of_ble_eq_true rfl) ⟨rfl, rfl⟩ rfl (WP.c0i F.2 (fun x160 _ f167 =>
  WP.if_eq (pc2 := 201) (off := 59) (tgt := 257) rfl (by decide +kernel) (by decide) (fun h164 => have f165 := f167.1 h164
  WP.iinc (pc2 := 260) (i := 7) (d := 1) rfl (by decide +kernel) rfl f165.1 <|
  WP.goto (off := -127) (tgt := 133) (by decide +kernel) (by decide) <|
  f165.2) (fun h164 => have f166 := f167.2 h164
  WP.aload_n (pc2 := 202) (i := 0) rfl (by decide +kernel) rfl <|
  WP.getR (pc2 := 205) rfl (by decide +kernel) zc_12 zSh_37 (by decide) rfl lf_X12_33 rfl (rs_37_15 hM) <|
  WP.iload (pc2 := 207) (i := 8) rfl (by decide +kernel) rfl <|
  WP.aload_n (pc2 := 208) (i := 0) rfl (by decide +kernel) rfl <|
  WP.getI (pc2 := 211) rfl (by decide +kernel) zc_12 zSh_37 (by decide) rfl lf_X12_174 rfl rfl <|
  WP.imul (pc2 := 212) rfl (by decide +kernel) f166.1 <|
  WP.iload (pc2 := 214) (i := 9) rfl (by decide +kernel) rfl <|
  WP.iadd (pc2 := 215) rfl (by decide +kernel) f166.2.1 <|
  WP.baload (pc2 := 216) rfl (by decide +kernel) zSh_43 (by decide) rfl f166.2.2.1 rfl <|
  WP.if_eq (pc2 := 219) (off := 6) (tgt := 222) rfl (by decide +kernel) (by decide) (fun h161 => have f162 := f166.2.2.2.1 h161
  WP.aload_n (pc2 := 223) (i := 0) rfl (by decide +kernel) rfl <|
  WP.getR (pc2 := 226) rfl (by decide +kernel) zc_12 zSh_37 (by decide) rfl lf_X12_33 rfl (rs_37_15 hM) <|
  WP.iload (pc2 := 228) (i := 8) rfl (by decide +kernel) rfl <|
  WP.aload_n (pc2 := 229) (i := 0) rfl (by decide +kernel) rfl <|
  WP.getI (pc2 := 232) rfl (by decide +kernel) zc_12 zSh_37 (by decide) rfl lf_X12_174 rfl rfl <|
  WP.imul (pc2 := 233) rfl (by decide +kernel) f162.1 <|
  WP.iload (pc2 := 235) (i := 9) rfl (by decide +kernel) rfl <|
  WP.iadd (pc2 := 236) rfl (by decide +kernel) f162.2.1 <|
  WP.iconst (pc2 := 237) (x := 1) rfl (by decide +kernel) (by decide) <|
  WP.bastore (pc2 := 238) rfl (by decide +kernel) zSh_43 (Or.inr ⟨rfl, by decide, by decide⟩) rfl f162.2.2.1 <|
  WP.aload_n (pc2 := 239) (i := 0) rfl (by decide +kernel) rfl <|
  WP.getR (pc2 := 242) rfl (by decide +kernel) zc_12 zSh_37 (by decide) rfl lf_X12_37 rfl (rs_37_16 hM) <|
  WP.iload_n (pc2 := 243) (i := 3) rfl (by decide +kernel) rfl <|
  WP.iload (pc2 := 245) (i := 8) rfl (by decide +kernel) rfl <|
  WP.aload_n (pc2 := 246) (i := 0) rfl (by decide +kernel) rfl <|
  WP.getI (pc2 := 249) rfl (by decide +kernel) zc_12 zSh_37 (by decide) rfl lf_X12_174 rfl (zup_k _ _ _ _ _ _ (by decide)) <|
  WP.imul (pc2 := 250) rfl (by decide +kernel) f162.2.2.2.1 <|
  WP.iload (pc2 := 252) (i := 9) rfl (by decide +kernel) rfl <|
  WP.iadd (pc2 := 253) rfl (by decide +kernel) f162.2.2.2.2.1 <|
  WP.iastore (pc2 := 254) rfl (by decide +kernel) zSh_44 rfl f162.2.2.2.2.2.1 <|
  WP.iinc (pc2 := 257) (i := 3) (d := 1) rfl (by decide +kernel) rfl f162.2.2.2.2.2.2.1 <|
  WP.iinc (pc2 := 260) (i := 7) (d := 1) rfl (by decide +kernel) rfl f162.2.2.2.2.2.2.2.1 <|
  WP.goto (off := -127) (tgt := 133) (by decide +kernel) (by decide) <|
  f162.2.2.2.2.2.2.2.2) (fun h161 => have f163 := f166.2.2.2.2 h161
  WP.goto (off := 38) (tgt := 257) (by decide +kernel) (by decide) <|
  WP.iinc (pc2 := 260) (i := 7) (d := 1) rfl (by decide +kernel) rfl f163.1 <|
  WP.goto (off := -127) (tgt := 133) (by decide +kernel) (by decide) <|
  f163.2))))
set_option maxRecDepth 100000 in
set_option maxHeartbeats 4000000 in
theorem GX12_leadsTo {hi : zI} {hr : zR} {P : Int → Prop} (l1 : Int) (l2 : Int) (l3 : Int) (l4 : Int) (l5 : Int) 
    (F : (0 ≤ l4) ∧ ((0 ≤ l4) ∧ ((l5 ≠ 0 → ((zInR (l5 - 1)) ∧ (W0i mX12_neighbour [.inr (some (37, 0)), .inl (l4 / 3), .inl (l5 - 1)] hi hr (fun (x1 : Int) => WP mX12_leadsTo 32 [some (.inr (some (37, 0))), some (.inl l1), some (.inl l2), some (.inl l3), some (.inl l4), some (.inl l5), some (.inl (l4 / 3)), some (.inl (l4 % 3)), none] [.inl x1] hi hr (zQ0i hi hr P))))) ∧ (l5 = 0 → (WP mX12_leadsTo 32 [some (.inr (some (37, 0))), some (.inl l1), some (.inl l2), some (.inl l3), some (.inl l4), some (.inl l5), some (.inl (l4 / 3)), some (.inl (l4 % 3)), none] [.inl (l4 / 3)] hi hr (zQ0i hi hr P)))))) :
    W0i mX12_leadsTo [.inr (some (37, 0)), .inl l1, .inl l2, .inl l3, .inl l4, .inl l5] hi hr P :=
  WPm.of rfl (show WP mX12_leadsTo 0 [some (.inr (some (37, 0))), some (.inl l1), some (.inl l2), some (.inl l3), some (.inl l4), some (.inl l5), none, none, none] [] hi hr (zQ0i hi hr P) from
  WP.iload (pc2 := 2) (i := 4) rfl (by decide +kernel) rfl <|
  WP.iconst (pc2 := 3) (x := 3) rfl (by decide +kernel) (by decide) <|
  WP.idiv (pc2 := 4) rfl (by decide +kernel) F.1 (by decide) <|
  WP.istore (pc2 := 6) (i := 6) rfl (by decide +kernel) (by decide) <|
  WP.iload (pc2 := 8) (i := 4) rfl (by decide +kernel) rfl <|
  WP.iconst (pc2 := 9) (x := 3) rfl (by decide +kernel) (by decide) <|
  WP.irem (pc2 := 10) rfl (by decide +kernel) F.2.1 (by decide) <|
  WP.istore (pc2 := 12) (i := 7) rfl (by decide +kernel) (by decide) <|
  WP.iload (pc2 := 14) (i := 5) rfl (by decide +kernel) rfl <|
  WP.if_ne (pc2 := 17) (off := 8) (tgt := 22) rfl (by decide +kernel) (by decide) (fun h3 => have f4 := F.2.2.1 h3
  WP.aload_n (pc2 := 23) (i := 0) rfl (by decide +kernel) rfl <|
  WP.iload (pc2 := 25) (i := 6) rfl (by decide +kernel) rfl <|
  WP.iload (pc2 := 27) (i := 5) rfl (by decide +kernel) rfl <|
  WP.iconst (pc2 := 28) (x := 1) rfl (by decide +kernel) (by decide) <|
  WP.isub (pc2 := 29) rfl (by decide +kernel) f4.1 <|
  WP.callV (y := mX12_leadsTo) (index := 225) (pc2 := 32) (y' := mX12_neighbour) (vs := [.inl (l4 / 3), .inl (l5 - 1)]) rfl (by decide +kernel) okX12_neighbour ⟨by decide, by decide⟩ ⟨lm_X12_225, ivX12_neighbour⟩ zSh_37 zc_12 (Nat.le_of_ble_eq_true rfl) ⟨rfl, rfl⟩ rfl (WP.c0i f4.2 (fun x1 _ f2 =>
  f2))) (fun h3 => have f5 := F.2.2.2 h3
  WP.iload (pc2 := 19) (i := 6) rfl (by decide +kernel) rfl <|
  WP.goto (off := 13) (tgt := 32) (by decide +kernel) (by decide) <|
  f5))

set_option maxRecDepth 100000 in
set_option maxHeartbeats 4000000 in
theorem GX12_leadsTo_32 {hi : zI} {hr : zR} {P : Int → Prop} (hM : RSm hr) (l1 : Int) (l2 : Int) (l3 : Int) (l4 : Int) (l5 : Int) (a6 : Int) (a7 : Int) (s0 : Int) 
    (F : (s0 ≠ -1 → ((l5 ≤ 0 → (WP mX12_leadsTo 83 [some (.inr (some (37, 0))), some (.inl l1), some (.inl l2), some (.inl l3), some (.inl l4), some (.inl l5), some (.inl a6), some (.inl a7), some (.inl s0)] [] hi hr (zQ0i hi hr P))) ∧ (0 < l5 → ((0 ≤ s0 ∧ s0 < 512) ∧ ((hi 39 0 s0 < 2 → (WP mX12_leadsTo 83 [some (.inr (some (37, 0))), some (.inl l1), some (.inl l2), some (.inl l3), some (.inl l4), some (.inl l5), some (.inl a6), some (.inl a7), some (.inl s0)] [] hi hr (zQ0i hi hr P))) ∧ (2 ≤ hi 39 0 s0 → ((s0 = l2 → (WP mX12_leadsTo 83 [some (.inr (some (37, 0))), some (.inl l1), some (.inl l2), some (.inl l3), some (.inl l4), some (.inl l5), some (.inl a6), some (.inl a7), some (.inl s0)] [] hi hr (zQ0i hi hr P))) ∧ (s0 ≠ l2 → ((s0 = l3 → (WP mX12_leadsTo 83 [some (.inr (some (37, 0))), some (.inl l1), some (.inl l2), some (.inl l3), some (.inl l4), some (.inl l5), some (.inl a6), some (.inl a7), some (.inl s0)] [] hi hr (zQ0i hi hr P))) ∧ (s0 ≠ l3 → ((0 ≤ l1 ∧ l1 < 256) ∧ ((s0 = hi 42 0 l1 → (WP mX12_leadsTo 83 [some (.inr (some (37, 0))), some (.inl l1), some (.inl l2), some (.inl l3), some (.inl l4), some (.inl l5), some (.inl a6), some (.inl a7), some (.inl s0)] [] hi hr (zQ0i hi hr P))) ∧ (s0 ≠ hi 42 0 l1 → (P (-1))))))))))))))) ∧ (s0 = -1 → (P (-1)))) :
    WP mX12_leadsTo 32 [some (.inr (some (37, 0))), some (.inl l1), some (.inl l2), some (.inl l3), some (.inl l4), some (.inl l5), some (.inl a6), some (.inl a7), none] [.inl s0] hi hr (zQ0i hi hr P) :=
  WP.istore (pc2 := 34) (i := 8) rfl (by decide +kernel) (by decide) <|
  WP.iload (pc2 := 36) (i := 8) rfl (by decide +kernel) rfl <|
  WP.iconst (pc2 := 37) (x := -1) rfl (by decide +kernel) (by decide) <|
  WP.icmp_ne (pc2 := 40) (off := 5) (tgt := 42) rfl (by decide +kernel) (by decide) (fun h21 => have f22 := F.1 h21
  WP.iload (pc2 := 44) (i := 5) rfl (by decide +kernel) rfl <|
  WP.if_le (pc2 := 47) (off := 39) (tgt := 83) rfl (by decide +kernel) (by decide) (fun h18 => have f19 := f22.1 h18
  f19) (fun h18 => have f20 := f22.2 h18
  WP.aload_n (pc2 := 48) (i := 0) rfl (by decide +kernel) rfl <|
  WP.getR (pc2 := 51) rfl (by decide +kernel) zc_12 zSh_37 (by decide) rfl lf_X12_20 rfl (rs_37_7 hM) <|
  WP.iload (pc2 := 53) (i := 8) rfl (by decide +kernel) rfl <|
  WP.iaload (pc2 := 54) rfl (by decide +kernel) zSh_39 rfl f20.1 rfl <|
  WP.iconst (pc2 := 55) (x := 2) rfl (by decide +kernel) (by decide) <|
  WP.icmp_lt (pc2 := 58) (off := 28) (tgt := 83) rfl (by decide +kernel) (by decide) (fun h15 => have f16 := f20.2.1 h15
  f16) (fun h15 => have f17 := f20.2.2 h15
  WP.iload (pc2 := 60) (i := 8) rfl (by decide +kernel) rfl <|
  WP.iload_n (pc2 := 61) (i := 2) rfl (by decide +kernel) rfl <|
  WP.icmp_eq (pc2 := 64) (off := 22) (tgt := 83) rfl (by decide +kernel) (by decide) (fun h12 => have f13 := f17.1 h12
  f13) (fun h12 => have f14 := f17.2 h12
  WP.iload (pc2 := 66) (i := 8) rfl (by decide +kernel) rfl <|
  WP.iload_n (pc2 := 67) (i := 3) rfl (by decide +kernel) rfl <|
  WP.icmp_eq (pc2 := 70) (off := 16) (tgt := 83) rfl (by decide +kernel) (by decide) (fun h9 => have f10 := f14.1 h9
  f10) (fun h9 => have f11 := f14.2 h9
  WP.iload (pc2 := 72) (i := 8) rfl (by decide +kernel) rfl <|
  WP.aload_n (pc2 := 73) (i := 0) rfl (by decide +kernel) rfl <|
  WP.getR (pc2 := 76) rfl (by decide +kernel) zc_12 zSh_37 (by decide) rfl lf_X12_30 rfl (rs_37_12 hM) <|
  WP.iload_n (pc2 := 77) (i := 1) rfl (by decide +kernel) rfl <|
  WP.iaload (pc2 := 78) rfl (by decide +kernel) zSh_42 rfl f11.1 rfl <|
  WP.icmp_eq (pc2 := 81) (off := 5) (tgt := 83) rfl (by decide +kernel) (by decide) (fun h6 => have f7 := f11.2.1 h6
  f7) (fun h6 => have f8 := f11.2.2 h6
  WP.iconst (pc2 := 82) (x := -1) rfl (by decide +kernel) (by decide) <|
  WP.iret (by decide +kernel) rfl (fun hx => ⟨_, rfl, hx, rfl, rfl, f8⟩))))))) (fun h21 => have f23 := F.2 h21
  WP.iconst (pc2 := 41) (x := -1) rfl (by decide +kernel) (by decide) <|
  WP.iret (by decide +kernel) rfl (fun hx => ⟨_, rfl, hx, rfl, rfl, f23⟩))

set_option maxRecDepth 100000 in
set_option maxHeartbeats 4000000 in
theorem GX12_leadsTo_83 {hi : zI} {hr : zR} {P : Int → Prop} (l1 : Int) (l2 : Int) (l3 : Int) (l4 : Int) (l5 : Int) (a6 : Int) (a7 : Int) (a8 : Int) 
    (F : (l5 ≠ 0 → (WP mX12_leadsTo 105 [some (.inr (some (37, 0))), some (.inl l1), some (.inl l2), some (.inl l3), some (.inl l4), some (.inl l5), some (.inl a6), some (.inl a7), some (.inl a8)] [] hi hr (zQ0i hi hr P))) ∧ (l5 = 0 → ((a7 ≠ 0 → (WP mX12_leadsTo 105 [some (.inr (some (37, 0))), some (.inl l1), some (.inl l2), some (.inl l3), some (.inl l4), some (.inl l5), some (.inl a6), some (.inl a7), some (.inl a8)] [] hi hr (zQ0i hi hr P))) ∧ (a7 = 0 → ((a6 ≠ l2 → (WP mX12_leadsTo 105 [some (.inr (some (37, 0))), some (.inl l1), some (.inl l2), some (.inl l3), some (.inl l4), some (.inl l5), some (.inl a6), some (.inl a7), some (.inl a8)] [] hi hr (zQ0i hi hr P))) ∧ (a6 = l2 → (WP mX12_leadsTo 125 [some (.inr (some (37, 0))), some (.inl l1), some (.inl l2), some (.inl l3), some (.inl l4), some (.inl l5), some (.inl a6), some (.inl 1), some (.inl a8)] [] hi hr (zQ0i hi hr P)))))))) :
    WP mX12_leadsTo 83 [some (.inr (some (37, 0))), some (.inl l1), some (.inl l2), some (.inl l3), some (.inl l4), some (.inl l5), some (.inl a6), some (.inl a7), some (.inl a8)] [] hi hr (zQ0i hi hr P) :=
  WP.iload (pc2 := 85) (i := 5) rfl (by decide +kernel) rfl <|
  WP.if_ne (pc2 := 88) (off := 20) (tgt := 105) rfl (by decide +kernel) (by decide) (fun h30 => have f31 := F.1 h30
  f31) (fun h30 => have f32 := F.2 h30
  WP.iload (pc2 := 90) (i := 7) rfl (by decide +kernel) rfl <|
  WP.if_ne (pc2 := 93) (off := 15) (tgt := 105) rfl (by decide +kernel) (by decide) (fun h27 => have f28 := f32.1 h27
  f28) (fun h27 => have f29 := f32.2 h27
  WP.iload (pc2 := 95) (i := 6) rfl (by decide +kernel) rfl <|
  WP.iload_n (pc2 := 96) (i := 2) rfl (by decide +kernel) rfl <|
  WP.icmp_ne (pc2 := 99) (off := 9) (tgt := 105) rfl (by decide +kernel) (by decide) (fun h24 => have f25 := f29.1 h24
  f25) (fun h24 => have f26 := f29.2 h24
  WP.iconst (pc2 := 100) (x := 1) rfl (by decide +kernel) (by decide) <|
  WP.istore (pc2 := 102) (i := 7) rfl (by decide +kernel) (by decide) <|
  WP.goto (off := 23) (tgt := 125) (by decide +kernel) (by decide) <|
  f26)))

set_option maxRecDepth 100000 in
set_option maxHeartbeats 4000000 in
theorem GX12_leadsTo_105 {hi : zI} {hr : zR} {P : Int → Prop} (l1 : Int) (l2 : Int) (l3 : Int) (l4 : Int) (l5 : Int) (a6 : Int) (a7 : Int) (a8 : Int) 
    (F : (l5 ≠ 0 → (WP mX12_leadsTo 125 [some (.inr (some (37, 0))), some (.inl l1), some (.inl l2), some (.inl l3), some (.inl l4), some (.inl l5), some (.inl a6), some (.inl a7), some (.inl a8)] [] hi hr (zQ0i hi hr P))) ∧ (l5 = 0 → ((a7 ≠ 1 → (WP mX12_leadsTo 125 [some (.inr (some (37, 0))), some (.inl l1), some (.inl l2), some (.inl l3), some (.inl l4), some (.inl l5), some (.inl a6), some (.inl a7), some (.inl a8)] [] hi hr (zQ0i hi hr P))) ∧ (a7 = 1 → ((a6 ≠ l3 → (WP mX12_leadsTo 125 [some (.inr (some (37, 0))), some (.inl l1), some (.inl l2), some (.inl l3), some (.inl l4), some (.inl l5), some (.inl a6), some (.inl a7), some (.inl a8)] [] hi hr (zQ0i hi hr P))) ∧ (a6 = l3 → (WP mX12_leadsTo 125 [some (.inr (some (37, 0))), some (.inl l1), some (.inl l2), some (.inl l3), some (.inl l4), some (.inl l5), some (.inl a6), some (.inl 2), some (.inl a8)] [] hi hr (zQ0i hi hr P)))))))) :
    WP mX12_leadsTo 105 [some (.inr (some (37, 0))), some (.inl l1), some (.inl l2), some (.inl l3), some (.inl l4), some (.inl l5), some (.inl a6), some (.inl a7), some (.inl a8)] [] hi hr (zQ0i hi hr P) :=
  WP.iload (pc2 := 107) (i := 5) rfl (by decide +kernel) rfl <|
  WP.if_ne (pc2 := 110) (off := 18) (tgt := 125) rfl (by decide +kernel) (by decide) (fun h39 => have f40 := F.1 h39
  f40) (fun h39 => have f41 := F.2 h39
  WP.iload (pc2 := 112) (i := 7) rfl (by decide +kernel) rfl <|
  WP.iconst (pc2 := 113) (x := 1) rfl (by decide +kernel) (by decide) <|
  WP.icmp_ne (pc2 := 116) (off := 12) (tgt := 125) rfl (by decide +kernel) (by decide) (fun h36 => have f37 := f41.1 h36
  f37) (fun h36 => have f38 := f41.2 h36
  WP.iload (pc2 := 118) (i := 6) rfl (by decide +kernel) rfl <|
  WP.iload_n (pc2 := 119) (i := 3) rfl (by decide +kernel) rfl <|
  WP.icmp_ne (pc2 := 122) (off := 6) (tgt := 125) rfl (by decide +kernel) (by decide) (fun h33 => have f34 := f38.1 h33
  f34) (fun h33 => have f35 := f38.2 h33
  WP.iconst (pc2 := 123) (x := 2) rfl (by decide +kernel) (by decide) <|
  WP.istore (pc2 := 125) (i := 7) rfl (by decide +kernel) (by decide) <|
  f35)))

set_option maxRecDepth 100000 in
set_option maxHeartbeats 4000000 in
theorem GX12_leadsTo_125 {hi : zI} {hr : zR} {P : Int → Prop} (l1 : Int) (l2 : Int) (l3 : Int) (l4 : Int) (l5 : Int) (a6 : Int) (a7 : Int) (a8 : Int) 
    (F : (zInR (3 * a8)) ∧ ((zInR ((3 * a8) + a7)) ∧ (P ((3 * a8) + a7)))) :
    WP mX12_leadsTo 125 [some (.inr (some (37, 0))), some (.inl l1), some (.inl l2), some (.inl l3), some (.inl l4), some (.inl l5), some (.inl a6), some (.inl a7), some (.inl a8)] [] hi hr (zQ0i hi hr P) :=
  WP.iconst (pc2 := 126) (x := 3) rfl (by decide +kernel) (by decide) <|
  WP.iload (pc2 := 128) (i := 8) rfl (by decide +kernel) rfl <|
  WP.imul (pc2 := 129) rfl (by decide +kernel) F.1 <|
  WP.iload (pc2 := 131) (i := 7) rfl (by decide +kernel) rfl <|
  WP.iadd (pc2 := 132) rfl (by decide +kernel) F.2.1 <|
  WP.iret (by decide +kernel) rfl (fun hx => ⟨_, rfl, hx, rfl, rfl, F.2.2⟩)
set_option maxRecDepth 100000 in
set_option maxHeartbeats 4000000 in
theorem GX12_finds {hi : zI} {hr : zR} {P : Int → zI → Prop} (hM : RSm hr) (l1 : Int) (l2 : Int) (l3 : Int) (l4 : Int) 
    (F : (0 ≤ l1 ∧ l1 < 256) ∧ ((zInR (3 * (hi 42 0 l1))) ∧ ((zInR ((3 * (hi 42 0 l1)) + 2)) ∧ (WP mX12_finds 15 [some (.inr (some (37, 0))), some (.inl l1), some (.inl l2), some (.inl l3), some (.inl l4), some (.inl ((3 * (hi 42 0 l1)) + 2)), some (.inl 0), none, none, none, none, none] [] hi hr (zQ1i hr P))))) :
    W1i mX12_finds [.inr (some (37, 0)), .inl l1, .inl l2, .inl l3, .inl l4] hi hr P :=
  WPm.of rfl (show WP mX12_finds 0 [some (.inr (some (37, 0))), some (.inl l1), some (.inl l2), some (.inl l3), some (.inl l4), none, none, none, none, none, none, none] [] hi hr (zQ1i hr P) from
  WP.iconst (pc2 := 1) (x := 3) rfl (by decide +kernel) (by decide) <|
  WP.aload_n (pc2 := 2) (i := 0) rfl (by decide +kernel) rfl <|
  WP.getR (pc2 := 5) rfl (by decide +kernel) zc_12 zSh_37 (by decide) rfl lf_X12_30 rfl (rs_37_12 hM) <|
  WP.iload_n (pc2 := 6) (i := 1) rfl (by decide +kernel) rfl <|
  WP.iaload (pc2 := 7) rfl (by decide +kernel) zSh_42 rfl F.1 rfl <|
  WP.imul (pc2 := 8) rfl (by decide +kernel) F.2.1 <|
  WP.iconst (pc2 := 9) (x := 2) rfl (by decide +kernel) (by decide) <|
  WP.iadd (pc2 := 10) rfl (by decide +kernel) F.2.2.1 <|
  WP.istore (pc2 := 12) (i := 5) rfl (by decide +kernel) (by decide) <|
  WP.iconst (pc2 := 13) (x := 0) rfl (by decide +kernel) (by decide) <|
  WP.istore (pc2 := 15) (i := 6) rfl (by decide +kernel) (by decide) <|
  F.2.2.2)

set_option maxRecDepth 100000 in
set_option maxHeartbeats 4000000 in
theorem GX12_finds_15 {hi : zI} {hr : zR} {P : Int → zI → Prop} (hM : RSm hr) (l1 : Int) (l2 : Int) (l3 : Int) (l4 : Int) (a5 : Int) (a6 : Int) 
    (F : (231168 ≤ a6 → ((0 ≤ l1 ∧ l1 < 256) ∧ ((zInR (3 * (hi 42 0 l1))) ∧ ((0 ≤ 3 * (hi 42 0 l1) ∧ 3 * (hi 42 0 l1) < 231168) ∧ (WP mX12_finds 61 [some (.inr (some (37, 0))), some (.inl l1), some (.inl l2), some (.inl l3), some (.inl l4), some (.inl a5), some (.inl 0), none, none, none, none, none] [] (zup hi 57 0 (3 * (hi 42 0 l1)) 1) hr (zQ1i hr P)))))) ∧ (a6 < 231168 → ((0 ≤ a6 ∧ a6 < 231168) ∧ ((0 ≤ a6 ∧ a6 < 231168) ∧ ((zInR (a6 + 1)) ∧ (WP mX12_finds 15 [some (.inr (some (37, 0))), some (.inl l1), some (.inl l2), some (.inl l3), some (.inl l4), some (.inl a5), some (.inl (a6 + 1)), none, none, none, none, none] [] (zup (zup hi 57 0 a6 0) 58 0 a6 0) hr (zQ1i hr P))))))) :
    WP mX12_finds 15 [some (.inr (some (37, 0))), some (.inl l1), some (.inl l2), some (.inl l3), some (.inl l4), some (.inl a5), some (.inl a6), none, none, none, none, none] [] hi hr (zQ1i hr P) :=
  WP.iload (pc2 := 17) (i := 6) rfl (by decide +kernel) rfl <|
  WP.ldc (pc2 := 19) rfl lq_X12_76 (by decide +kernel) (by decide) <|
  WP.icmp_ge (pc2 := 22) (off := 25) (tgt := 44) rfl (by decide +kernel) (by decide) (fun h1 => have f2 := F.1 h1
  WP.aload_n (pc2 := 45) (i := 0) rfl (by decide +kernel) rfl <|
  WP.getR (pc2 := 48) rfl (by decide +kernel) zc_12 zSh_37 (by decide) rfl lf_X12_77 rfl (rs_37_33 hM) <|
  WP.iconst (pc2 := 49) (x := 3) rfl (by decide +kernel) (by decide) <|
  WP.aload_n (pc2 := 50) (i := 0) rfl (by decide +kernel) rfl <|
  WP.getR (pc2 := 53) rfl (by decide +kernel) zc_12 zSh_37 (by decide) rfl lf_X12_30 rfl (rs_37_12 hM) <|
  WP.iload_n (pc2 := 54) (i := 1) rfl (by decide +kernel) rfl <|
  WP.iaload (pc2 := 55) rfl (by decide +kernel) zSh_42 rfl f2.1 rfl <|
  WP.imul (pc2 := 56) rfl (by decide +kernel) f2.2.1 <|
  WP.iconst (pc2 := 57) (x := 1) rfl (by decide +kernel) (by decide) <|
  WP.bastore (pc2 := 58) rfl (by decide +kernel) zSh_57 (Or.inr ⟨rfl, by decide, by decide⟩) rfl f2.2.2.1 <|
  WP.iconst (pc2 := 59) (x := 0) rfl (by decide +kernel) (by decide) <|
  WP.istore (pc2 := 61) (i := 6) rfl (by decide +kernel) (by decide) <|
  f2.2.2.2) (fun h1 => have f3 := F.2 h1
  WP.aload_n (pc2 := 23) (i := 0) rfl (by decide +kernel) rfl <|
  WP.getR (pc2 := 26) rfl (by decide +kernel) zc_12 zSh_37 (by decide) rfl lf_X12_77 rfl (rs_37_33 hM) <|
  WP.iload (pc2 := 28) (i := 6) rfl (by decide +kernel) rfl <|
  WP.iconst (pc2 := 29) (x := 0) rfl (by decide +kernel) (by decide) <|
  WP.bastore (pc2 := 30) rfl (by decide +kernel) zSh_57 (Or.inr ⟨rfl, by decide, by decide⟩) rfl f3.1 <|
  WP.aload_n (pc2 := 31) (i := 0) rfl (by decide +kernel) rfl <|
  WP.getR (pc2 := 34) rfl (by decide +kernel) zc_12 zSh_37 (by decide) rfl lf_X12_80 rfl (rs_37_34 hM) <|
  WP.iload (pc2 := 36) (i := 6) rfl (by decide +kernel) rfl <|
  WP.iconst (pc2 := 37) (x := 0) rfl (by decide +kernel) (by decide) <|
  WP.bastore (pc2 := 38) rfl (by decide +kernel) zSh_58 (Or.inr ⟨rfl, by decide, by decide⟩) rfl f3.2.1 <|
  WP.iinc (pc2 := 41) (i := 6) (d := 1) rfl (by decide +kernel) rfl f3.2.2.1 <|
  WP.goto (off := -26) (tgt := 15) (by decide +kernel) (by decide) <|
  f3.2.2.2)

set_option maxRecDepth 100000 in
set_option maxHeartbeats 4000000 in
theorem GX12_finds_133 {hi : zI} {hr : zR} {P : Int → zI → Prop} (hM : RSm hr) (l1 : Int) (l2 : Int) (l3 : Int) (l4 : Int) (a5 : Int) (a6 : Int) (a7 : Int) (a8 : Int) (a9 : Int) (u10 : Option zV) 
    (F : (5 ≤ a9 → ((zInR (a8 + 1)) ∧ (WP mX12_finds 94 [some (.inr (some (37, 0))), some (.inl l1), some (.inl l2), some (.inl l3), some (.inl l4), some (.inl a5), some (.inl a6), some (.inl a7), some (.inl (a8 + 1)), some (.inl a9), u10, none] [] hi hr (zQ1i hr P)))) ∧ (a9 < 5 → (W0i mX12_leadsTo [.inr (some (37, 0)), .inl l1, .inl l2, .inl l3, .inl a8, .inl a9] hi hr (fun (x80 : Int) => (x80 = -1 → ((zInR (a9 + 1)) ∧ (WP mX12_finds 133 [some (.inr (some (37, 0))), some (.inl l1), some (.inl l2), some (.inl l3), some (.inl l4), some (.inl a5), some (.inl a6), some (.inl a7), some (.inl a8), some (.inl (a9 + 1)), some (.inl x80), none] [] hi hr (zQ1i hr P)))) ∧ (x80 ≠ -1 → ((zInR (l4 + a6)) ∧ ((0 ≤ a8) ∧ ((0 ≤ x80) ∧ (W0i mX12_isClear [.inr (some (37, 0)), .inl l1, .inl (l4 + a6), .inl (a8 / 3), .inl (x80 / 3)] hi hr (fun (x81 : Int) => (x81 ≠ 0 → ((zInR (a6 + 1)) ∧ ((zInR (768 * (a6 + 1))) ∧ ((zInR ((768 * (a6 + 1)) + x80)) ∧ ((0 ≤ (768 * (a6 + 1)) + x80 ∧ (768 * (a6 + 1)) + x80 < 231168) ∧ ((zInR (a9 + 1)) ∧ (WP mX12_finds 133 [some (.inr (some (37, 0))), some (.inl l1), some (.inl l2), some (.inl l3), some (.inl l4), some (.inl a5), some (.inl a6), some (.inl 1), some (.inl a8), some (.inl (a9 + 1)), some (.inl x80), none] [] (zup hi 57 0 ((768 * (a6 + 1)) + x80) 1) hr (zQ1i hr P)))))))) ∧ (x81 = 0 → ((zInR (a9 + 1)) ∧ (WP mX12_finds 133 [some (.inr (some (37, 0))), some (.inl l1), some (.inl l2), some (.inl l3), some (.inl l4), some (.inl a5), some (.inl a6), some (.inl a7), some (.inl a8), some (.inl (a9 + 1)), some (.inl x80), none] [] hi hr (zQ1i hr P)))))))))))))) :
    WP mX12_finds 133 [some (.inr (some (37, 0))), some (.inl l1), some (.inl l2), some (.inl l3), some (.inl l4), some (.inl a5), some (.inl a6), some (.inl a7), some (.inl a8), some (.inl a9), u10, none] [] hi hr (zQ1i hr P) :=
  WP.iload (pc2 := 135) (i := 9) rfl (by decide +kernel) rfl <|
  WP.iconst (pc2 := 136) (x := 5) rfl (by decide +kernel) (by decide) <|
  WP.icmp_ge (pc2 := 139) (off := 72) (tgt := 208) rfl (by decide +kernel) (by decide) (fun h90 => have f91 := F.1 h90
  WP.iinc (pc2 := 211) (i := 8) (d := 1) rfl (by decide +kernel) rfl f91.1 <|
  WP.goto (off := -117) (tgt := 94) (by decide +kernel) (by decide) <|
  f91.2) (fun h90 => have f92 := F.2 h90
  WP.aload_n (pc2 := 140) (i := 0) rfl (by decide +kernel) rfl <|
  WP.iload_n (pc2 := 141) (i := 1) rfl (by decide +kernel) rfl <|
  WP.iload_n (pc2 := 142) (i := 2) rfl (by decide +kernel) rfl <|
  WP.iload_n (pc2 := 143) (i := 3) rfl (by decide +kernel) rfl <|
  WP.iload (pc2 := 145) (i := 8) rfl (by decide +kernel) rfl <|
  WP.iload (pc2 := 147) (i := 9) rfl (by decide +kernel) rfl <|
  WP.callV (y := mX12_finds) (index := 228) (pc2 := 150) (y' := mX12_leadsTo) (vs := [.inl l1, .inl l2, .inl l3, .inl a8, .inl a9]) rfl (by decide +kernel) okX12_leadsTo ⟨by decide, by decide⟩ ⟨lm_X12_228, ivX12_leadsTo⟩ zSh_37 zc_12 (Nat.le_of_ble_eq_true rfl) ⟨rfl, rfl⟩ rfl (WP.c0i f92 (fun x80 _ f89 =>
  WP.istore (pc2 := 152) (i := 10) rfl (by decide +kernel) (by decide) <|
  WP.iload (pc2 := 154) (i := 10) rfl (by decide +kernel) rfl <|
  WP.iconst (pc2 := 155) (x := -1) rfl (by decide +kernel) (by decide) <|
  WP.icmp_eq (pc2 := 158) (off := 47) (tgt := 202) rfl (by decide +kernel) (by decide) (fun h86 => have f87 := f89.1 h86
  WP.iinc (pc2 := 205) (i := 9) (d := 1) rfl (by decide +kernel) rfl f87.1 <|
  WP.goto (off := -72) (tgt := 133) (by decide +kernel) (by decide) <|
  f87.2) (fun h86 => have f88 := f89.2 h86
  WP.aload_n (pc2 := 159) (i := 0) rfl (by decide +kernel) rfl <|
  WP.iload_n (pc2 := 160) (i := 1) rfl (by decide +kernel) rfl <|
  WP.iload (pc2 := 162) (i := 4) rfl (by decide +kernel) rfl <|
  WP.iload (pc2 := 164) (i := 6) rfl (by decide +kernel) rfl <|
  WP.iadd (pc2 := 165) rfl (by decide +kernel) f88.1 <|
  WP.iload (pc2 := 167) (i := 8) rfl (by decide +kernel) rfl <|
  WP.iconst (pc2 := 168) (x := 3) rfl (by decide +kernel) (by decide) <|
  WP.idiv (pc2 := 169) rfl (by decide +kernel) f88.2.1 (by decide) <|
  WP.iload (pc2 := 171) (i := 10) rfl (by decide +kernel) rfl <|
  WP.iconst (pc2 := 172) (x := 3) rfl (by decide +kernel) (by decide) <|
  WP.idiv (pc2 := 173) rfl (by decide +kernel) f88.2.2.1 (by decide) <|
  WP.callV (y := mX12_finds) (index := 232) (pc2 := 176) (y' := mX12_isClear) (vs := [.inl l1, .inl (l4 + a6), .inl (a8 / 3), .inl (x80 / 3)]) rfl (by decide +kernel) okX12_isClear ⟨by decide, by decide⟩ ⟨lm_X12_232, ivX12_isClear⟩ zSh_37 zc_12 (Nat.le_of_ble_eq_true rfl) ⟨rfl, rfl⟩ rfl (WP.c0i f88.2.2.2 (fun x81 _ f85 =>
  WP.if_ne (pc2 := 179) (off := 6) (tgt := 182) rfl (by decide +kernel) (by decide) (fun h82 => have f83 := f85.1 h82
  WP.aload_n (pc2 := 183) (i := 0) rfl (by decide +kernel) rfl <|
  WP.getR (pc2 := 186) rfl (by decide +kernel) zc_12 zSh_37 (by decide) rfl lf_X12_77 rfl (rs_37_33 hM) <|
  WP.sipush (pc2 := 189) (x := 768) rfl (by decide +kernel) ⟨by decide +kernel, by decide⟩ <|
  WP.iload (pc2 := 191) (i := 6) rfl (by decide +kernel) rfl <|
  WP.iconst (pc2 := 192) (x := 1) rfl (by decide +kernel) (by decide) <|
  WP.iadd (pc2 := 193) rfl (by decide +kernel) f83.1 <|
  WP.imul (pc2 := 194) rfl (by decide +kernel) f83.2.1 <|
  WP.iload (pc2 := 196) (i := 10) rfl (by decide +kernel) rfl <|
  WP.iadd (pc2 := 197) rfl (by decide +kernel) f83.2.2.1 <|
  WP.iconst (pc2 := 198) (x := 1) rfl (by decide +kernel) (by decide) <|
  WP.bastore (pc2 := 199) rfl (by decide +kernel) zSh_57 (Or.inr ⟨rfl, by decide, by decide⟩) rfl f83.2.2.2.1 <|
  WP.iconst (pc2 := 200) (x := 1) rfl (by decide +kernel) (by decide) <|
  WP.istore (pc2 := 202) (i := 7) rfl (by decide +kernel) (by decide) <|
  WP.iinc (pc2 := 205) (i := 9) (d := 1) rfl (by decide +kernel) rfl f83.2.2.2.2.1 <|
  WP.goto (off := -72) (tgt := 133) (by decide +kernel) (by decide) <|
  f83.2.2.2.2.2) (fun h82 => have f84 := f85.2 h82
  WP.goto (off := 23) (tgt := 202) (by decide +kernel) (by decide) <|
  WP.iinc (pc2 := 205) (i := 9) (d := 1) rfl (by decide +kernel) rfl f84.1 <|
  WP.goto (off := -72) (tgt := 133) (by decide +kernel) (by decide) <|
  f84.2)))))))

set_option maxRecDepth 100000 in
set_option maxHeartbeats 4000000 in
theorem GX12_finds_94 {hi : zI} {hr : zR} {P : Int → zI → Prop} (hM : RSm hr) (l1 : Int) (l2 : Int) (l3 : Int) (l4 : Int) (a5 : Int) (a6 : Int) (a7 : Int) (a8 : Int) (u9 : Option zV) (u10 : Option zV) 
    (F : (zInR (3 * (hi 37 0 5))) ∧ ((zInR ((3 * (hi 37 0 5)) * (hi 37 0 6))) ∧ (((3 * (hi 37 0 5)) * (hi 37 0 6) ≤ a8 → ((a7 ≠ 0 → ((zInR (a6 + 1)) ∧ (WP mX12_finds 61 [some (.inr (some (37, 0))), some (.inl l1), some (.inl l2), some (.inl l3), some (.inl l4), some (.inl a5), some (.inl (a6 + 1)), some (.inl a7), some (.inl a8), u9, u10, none] [] hi hr (zQ1i hr P)))) ∧ (a7 = 0 → P 0 hi))) ∧ (a8 < (3 * (hi 37 0 5)) * (hi 37 0 6) → ((zInR (768 * a6)) ∧ ((zInR ((768 * a6) + a8)) ∧ ((0 ≤ (768 * a6) + a8 ∧ (768 * a6) + a8 < 231168) ∧ ((hi 57 0 ((768 * a6) + a8) ≠ 0 → (WP mX12_finds 133 [some (.inr (some (37, 0))), some (.inl l1), some (.inl l2), some (.inl l3), some (.inl l4), some (.inl a5), some (.inl a6), some (.inl a7), some (.inl a8), some (.inl 0), u10, none] [] hi hr (zQ1i hr P))) ∧ (hi 57 0 ((768 * a6) + a8) = 0 → ((zInR (a8 + 1)) ∧ (WP mX12_finds 94 [some (.inr (some (37, 0))), some (.inl l1), some (.inl l2), some (.inl l3), some (.inl l4), some (.inl a5), some (.inl a6), some (.inl a7), some (.inl (a8 + 1)), u9, u10, none] [] hi hr (zQ1i hr P)))))))))))) :
    WP mX12_finds 94 [some (.inr (some (37, 0))), some (.inl l1), some (.inl l2), some (.inl l3), some (.inl l4), some (.inl a5), some (.inl a6), some (.inl a7), some (.inl a8), u9, u10, none] [] hi hr (zQ1i hr P) :=
  WP.iload (pc2 := 96) (i := 8) rfl (by decide +kernel) rfl <|
  WP.iconst (pc2 := 97) (x := 3) rfl (by decide +kernel) (by decide) <|
  WP.aload_n (pc2 := 98) (i := 0) rfl (by decide +kernel) rfl <|
  WP.getI (pc2 := 101) rfl (by decide +kernel) zc_12 zSh_37 (by decide) rfl lf_X12_149 rfl rfl <|
  WP.imul (pc2 := 102) rfl (by decide +kernel) F.1 <|
  WP.aload_n (pc2 := 103) (i := 0) rfl (by decide +kernel) rfl <|
  WP.getI (pc2 := 106) rfl (by decide +kernel) zc_12 zSh_37 (by decide) rfl lf_X12_152 rfl rfl <|
  WP.imul (pc2 := 107) rfl (by decide +kernel) F.2.1 <|
  WP.icmp_ge (pc2 := 110) (off := 107) (tgt := 214) rfl (by decide +kernel) (by decide) (fun h99 => have f100 := F.2.2.1 h99
  WP.iload (pc2 := 216) (i := 7) rfl (by decide +kernel) rfl <|
  WP.if_ne (pc2 := 219) (off := 5) (tgt := 221) rfl (by decide +kernel) (by decide) (fun h93 => have f94 := f100.1 h93
  WP.iinc (pc2 := 224) (i := 6) (d := 1) rfl (by decide +kernel) rfl f94.1 <|
  WP.goto (off := -163) (tgt := 61) (by decide +kernel) (by decide) <|
  f94.2) (fun h93 => have f95 := f100.2 h93
  WP.iconst (pc2 := 220) (x := 0) rfl (by decide +kernel) (by decide) <|
  WP.zret (by decide +kernel) rfl (by decide) (fun hx => ⟨_, rfl, hx, rfl, f95⟩))) (fun h99 => have f101 := F.2.2.2 h99
  WP.aload_n (pc2 := 111) (i := 0) rfl (by decide +kernel) rfl <|
  WP.getR (pc2 := 114) rfl (by decide +kernel) zc_12 zSh_37 (by decide) rfl lf_X12_77 rfl (rs_37_33 hM) <|
  WP.sipush (pc2 := 117) (x := 768) rfl (by decide +kernel) ⟨by decide +kernel, by decide⟩ <|
  WP.iload (pc2 := 119) (i := 6) rfl (by decide +kernel) rfl <|
  WP.imul (pc2 := 120) rfl (by decide +kernel) f101.1 <|
  WP.iload (pc2 := 122) (i := 8) rfl (by decide +kernel) rfl <|
  WP.iadd (pc2 := 123) rfl (by decide +kernel) f101.2.1 <|
  WP.baload (pc2 := 124) rfl (by decide +kernel) zSh_57 (by decide) rfl f101.2.2.1 rfl <|
  WP.if_ne (pc2 := 127) (off := 6) (tgt := 130) rfl (by decide +kernel) (by decide) (fun h96 => have f97 := f101.2.2.2.1 h96
  WP.iconst (pc2 := 131) (x := 0) rfl (by decide +kernel) (by decide) <|
  WP.istore (pc2 := 133) (i := 9) rfl (by decide +kernel) (by decide) <|
  f97) (fun h96 => have f98 := f101.2.2.2.2 h96
  WP.goto (off := 81) (tgt := 208) (by decide +kernel) (by decide) <|
  WP.iinc (pc2 := 211) (i := 8) (d := 1) rfl (by decide +kernel) rfl f98.1 <|
  WP.goto (off := -117) (tgt := 94) (by decide +kernel) (by decide) <|
  f98.2))

set_option maxRecDepth 100000 in
set_option maxHeartbeats 4000000 in
theorem GX12_finds_61 {hi : zI} {hr : zR} {P : Int → zI → Prop} (hM : RSm hr) (l1 : Int) (l2 : Int) (l3 : Int) (l4 : Int) (a5 : Int) (a6 : Int) (u7 : Option zV) (u8 : Option zV) (u9 : Option zV) (u10 : Option zV) 
    (F : (zInR (768 * a6)) ∧ ((zInR ((768 * a6) + a5)) ∧ ((0 ≤ (768 * a6) + a5 ∧ (768 * a6) + a5 < 231168) ∧ ((hi 57 0 ((768 * a6) + a5) ≠ 0 → ((zInR (768 * a6)) ∧ ((zInR ((768 * a6) + a5)) ∧ ((0 ≤ (768 * a6) + a5 ∧ (768 * a6) + a5 < 231168) ∧ ((zInR (a6 - 1)) ∧ (WP mX12_finds 248 [some (.inr (some (37, 0))), some (.inl l1), some (.inl l2), some (.inl l3), some (.inl l4), some (.inl a5), some (.inl a6), some (.inl (a6 - 1)), u8, u9, u10, none] [] (zup hi 58 0 ((768 * a6) + a5) 1) hr (zQ1i hr P))))))) ∧ (hi 57 0 ((768 * a6) + a5) = 0 → ((a6 ≠ 300 → (WP mX12_finds 94 [some (.inr (some (37, 0))), some (.inl l1), some (.inl l2), some (.inl l3), some (.inl l4), some (.inl a5), some (.inl a6), some (.inl 0), some (.inl 0), u9, u10, none] [] hi hr (zQ1i hr P))) ∧ (a6 = 300 → P 0 hi))))))) :
    WP mX12_finds 61 [some (.inr (some (37, 0))), some (.inl l1), some (.inl l2), some (.inl l3), some (.inl l4), some (.inl a5), some (.inl a6), u7, u8, u9, u10, none] [] hi hr (zQ1i hr P) :=
  WP.aload_n (pc2 := 62) (i := 0) rfl (by decide +kernel) rfl <|
  WP.getR (pc2 := 65) rfl (by decide +kernel) zc_12 zSh_37 (by decide) rfl lf_X12_77 rfl (rs_37_33 hM) <|
  WP.sipush (pc2 := 68) (x := 768) rfl (by decide +kernel) ⟨by decide +kernel, by decide⟩ <|
  WP.iload (pc2 := 70) (i := 6) rfl (by decide +kernel) rfl <|
  WP.imul (pc2 := 71) rfl (by decide +kernel) F.1 <|
  WP.iload (pc2 := 73) (i := 5) rfl (by decide +kernel) rfl <|
  WP.iadd (pc2 := 74) rfl (by decide +kernel) F.2.1 <|
  WP.baload (pc2 := 75) rfl (by decide +kernel) zSh_57 (by decide) rfl F.2.2.1 rfl <|
  WP.if_ne (pc2 := 78) (off := 152) (tgt := 227) rfl (by decide +kernel) (by decide) (fun h105 => have f106 := F.2.2.2.1 h105
  WP.aload_n (pc2 := 228) (i := 0) rfl (by decide +kernel) rfl <|
  WP.getR (pc2 := 231) rfl (by decide +kernel) zc_12 zSh_37 (by decide) rfl lf_X12_80 rfl (rs_37_34 hM) <|
  WP.sipush (pc2 := 234) (x := 768) rfl (by decide +kernel) ⟨by decide +kernel, by decide⟩ <|
  WP.iload (pc2 := 236) (i := 6) rfl (by decide +kernel) rfl <|
  WP.imul (pc2 := 237) rfl (by decide +kernel) f106.1 <|
  WP.iload (pc2 := 239) (i := 5) rfl (by decide +kernel) rfl <|
  WP.iadd (pc2 := 240) rfl (by decide +kernel) f106.2.1 <|
  WP.iconst (pc2 := 241) (x := 1) rfl (by decide +kernel) (by decide) <|
  WP.bastore (pc2 := 242) rfl (by decide +kernel) zSh_58 (Or.inr ⟨rfl, by decide, by decide⟩) rfl f106.2.2.1 <|
  WP.iload (pc2 := 244) (i := 6) rfl (by decide +kernel) rfl <|
  WP.iconst (pc2 := 245) (x := 1) rfl (by decide +kernel) (by decide) <|
  WP.isub (pc2 := 246) rfl (by decide +kernel) f106.2.2.2.1 <|
  WP.istore (pc2 := 248) (i := 7) rfl (by decide +kernel) (by decide) <|
  f106.2.2.2.2) (fun h105 => have f107 := F.2.2.2.2 h105
  WP.iload (pc2 := 80) (i := 6) rfl (by decide +kernel) rfl <|
  WP.sipush (pc2 := 83) (x := 300) rfl (by decide +kernel) ⟨by decide +kernel, by decide⟩ <|
  WP.icmp_ne (pc2 := 86) (off := 5) (tgt := 88) rfl (by decide +kernel) (by decide) (fun h102 => have f103 := f107.1 h102
  WP.iconst (pc2 := 89) (x := 0) rfl (by decide +kernel) (by decide) <|
  WP.istore (pc2 := 91) (i := 7) rfl (by decide +kernel) (by decide) <|
  WP.iconst (pc2 := 92) (x := 0) rfl (by decide +kernel) (by decide) <|
  WP.istore (pc2 := 94) (i := 8) rfl (by decide +kernel) (by decide) <|
  f103) (fun h102 => have f104 := f107.2 h102
  WP.iconst (pc2 := 87) (x := 0) rfl (by decide +kernel) (by decide) <|
  WP.zret (by decide +kernel) rfl (by decide) (fun hx => ⟨_, rfl, hx, rfl, f104⟩)))

set_option maxRecDepth 100000 in
set_option maxHeartbeats 4000000 in
theorem GX12_finds_248 {hi : zI} {hr : zR} {P : Int → zI → Prop} (hM : RSm hr) (l1 : Int) (l2 : Int) (l3 : Int) (l4 : Int) (a5 : Int) (a6 : Int) (a7 : Int) (u8 : Option zV) (u9 : Option zV) (u10 : Option zV) 
    (F : (a7 < 0 → ((0 ≤ l1 ∧ l1 < 6) ∧ ((zInR (l4 + a6)) ∧ ((0 ≤ l1 ∧ l1 < 6) ∧ ((0 ≤ l1 ∧ l1 < 6) ∧ ((0 ≤ l1 ∧ l1 < 256) ∧ ((zInR (3 * (hi 42 0 l1))) ∧ ((zInR (301 * l1)) ∧ ((0 ≤ l1 ∧ l1 < 256) ∧ ((0 ≤ 301 * l1 ∧ 301 * l1 < 1806) ∧ (WP mX12_finds 448 [some (.inr (some (37, 0))), some (.inl l1), some (.inl l2), some (.inl l3), some (.inl l4), some (.inl a5), some (.inl a6), some (.inl (3 * (hi 42 0 l1))), some (.inl 0), u9, u10, none] [] (zup (zup (zup (zup hi 52 0 l1 l4) 53 0 l1 (l4 + a6)) 54 0 l1 0) 51 0 (301 * l1) (hi 42 0 l1)) hr (zQ1i hr P)))))))))))) ∧ (0 ≤ a7 → (WP mX12_finds 256 [some (.inr (some (37, 0))), some (.inl l1), some (.inl l2), some (.inl l3), some (.inl l4), some (.inl a5), some (.inl a6), some (.inl a7), some (.inl 0), u9, u10, none] [] hi hr (zQ1i hr P)))) :
    WP mX12_finds 248 [some (.inr (some (37, 0))), some (.inl l1), some (.inl l2), some (.inl l3), some (.inl l4), some (.inl a5), some (.inl a6), some (.inl a7), u8, u9, u10, none] [] hi hr (zQ1i hr P) :=
  WP.iload (pc2 := 250) (i := 7) rfl (by decide +kernel) rfl <|
  WP.if_lt (pc2 := 253) (off := 143) (tgt := 393) rfl (by decide +kernel) (by decide) (fun h108 => have f109 := F.1 h108
  WP.aload_n (pc2 := 394) (i := 0) rfl (by decide +kernel) rfl <|
  WP.getR (pc2 := 397) rfl (by decide +kernel) zc_12 zSh_37 (by decide) rfl lf_X12_61 rfl (rs_37_28 hM) <|
  WP.iload_n (pc2 := 398) (i := 1) rfl (by decide +kernel) rfl <|
  WP.iload (pc2 := 400) (i := 4) rfl (by decide +kernel) rfl <|
  WP.iastore (pc2 := 401) rfl (by decide +kernel) zSh_52 rfl f109.1 <|
  WP.aload_n (pc2 := 402) (i := 0) rfl (by decide +kernel) rfl <|
  WP.getR (pc2 := 405) rfl (by decide +kernel) zc_12 zSh_37 (by decide) rfl lf_X12_64 rfl (rs_37_29 hM) <|
  WP.iload_n (pc2 := 406) (i := 1) rfl (by decide +kernel) rfl <|
  WP.iload (pc2 := 408) (i := 4) rfl (by decide +kernel) rfl <|
  WP.iload (pc2 := 410) (i := 6) rfl (by decide +kernel) rfl <|
  WP.iadd (pc2 := 411) rfl (by decide +kernel) f109.2.1 <|
  WP.iastore (pc2 := 412) rfl (by decide +kernel) zSh_53 rfl f109.2.2.1 <|
  WP.aload_n (pc2 := 413) (i := 0) rfl (by decide +kernel) rfl <|
  WP.getR (pc2 := 416) rfl (by decide +kernel) zc_12 zSh_37 (by decide) rfl lf_X12_67 rfl (rs_37_30 hM) <|
  WP.iload_n (pc2 := 417) (i := 1) rfl (by decide +kernel) rfl <|
  WP.iconst (pc2 := 418) (x := 0) rfl (by decide +kernel) (by decide) <|
  WP.iastore (pc2 := 419) rfl (by decide +kernel) zSh_54 rfl f109.2.2.2.1 <|
  WP.iconst (pc2 := 420) (x := 3) rfl (by decide +kernel) (by decide) <|
  WP.aload_n (pc2 := 421) (i := 0) rfl (by decide +kernel) rfl <|
  WP.getR (pc2 := 424) rfl (by decide +kernel) zc_12 zSh_37 (by decide) rfl lf_X12_30 rfl (rs_37_12 hM) <|
  WP.iload_n (pc2 := 425) (i := 1) rfl (by decide +kernel) rfl <|
  WP.iaload (pc2 := 426) rfl (by decide +kernel) zSh_42 rfl f109.2.2.2.2.1 ((zup_k _ _ _ _ _ _ (by decide)).trans ((zup_k _ _ _ _ _ _ (by decide)).trans (zup_k _ _ _ _ _ _ (by decide)))) <|
  WP.imul (pc2 := 427) rfl (by decide +kernel) f109.2.2.2.2.2.1 <|
  WP.istore (pc2 := 429) (i := 7) rfl (by decide +kernel) (by decide) <|
  WP.aload_n (pc2 := 430) (i := 0) rfl (by decide +kernel) rfl <|
  WP.getR (pc2 := 433) rfl (by decide +kernel) zc_12 zSh_37 (by decide) rfl lf_X12_58 rfl (rs_37_27 hM) <|
  WP.sipush (pc2 := 436) (x := 301) rfl (by decide +kernel) ⟨by decide +kernel, by decide⟩ <|
  WP.iload_n (pc2 := 437) (i := 1) rfl (by decide +kernel) rfl <|
  WP.imul (pc2 := 438) rfl (by decide +kernel) f109.2.2.2.2.2.2.1 <|
  WP.aload_n (pc2 := 439) (i := 0) rfl (by decide +kernel) rfl <|
  WP.getR (pc2 := 442) rfl (by decide +kernel) zc_12 zSh_37 (by decide) rfl lf_X12_30 rfl (rs_37_12 hM) <|
  WP.iload_n (pc2 := 443) (i := 1) rfl (by decide +kernel) rfl <|
  WP.iaload (pc2 := 444) rfl (by decide +kernel) zSh_42 rfl f109.2.2.2.2.2.2.2.1 ((zup_k _ _ _ _ _ _ (by decide)).trans ((zup_k _ _ _ _ _ _ (by decide)).trans (zup_k _ _ _ _ _ _ (by decide)))) <|
  WP.iastore (pc2 := 445) rfl (by decide +kernel) zSh_51 rfl f109.2.2.2.2.2.2.2.2.1 <|
  WP.iconst (pc2 := 446) (x := 0) rfl (by decide +kernel) (by decide) <|
  WP.istore (pc2 := 448) (i := 8) rfl (by decide +kernel) (by decide) <|
  f109.2.2.2.2.2.2.2.2.2) (fun h108 => have f110 := F.2 h108
  WP.iconst (pc2 := 254) (x := 0) rfl (by decide +kernel) (by decide) <|
  WP.istore (pc2 := 256) (i := 8) rfl (by decide +kernel) (by decide) <|
  f110)

set_option maxRecDepth 100000 in
set_option maxHeartbeats 4000000 in
theorem GX12_finds_256 {hi : zI} {hr : zR} {P : Int → zI → Prop} (hM : RSm hr) (l1 : Int) (l2 : Int) (l3 : Int) (l4 : Int) (a5 : Int) (a6 : Int) (a7 : Int) (a8 : Int) (u9 : Option zV) (u10 : Option zV) 
    (F : (zInR (3 * (hi 37 0 5))) ∧ ((zInR ((3 * (hi 37 0 5)) * (hi 37 0 6))) ∧ (((3 * (hi 37 0 5)) * (hi 37 0 6) ≤ a8 → ((zInR (a7 + (-1))) ∧ (WP mX12_finds 248 [some (.inr (some (37, 0))), some (.inl l1), some (.inl l2), some (.inl l3), some (.inl l4), some (.inl a5), some (.inl a6), some (.inl (a7 + (-1))), some (.inl a8), u9, u10, none] [] hi hr (zQ1i hr P)))) ∧ (a8 < (3 * (hi 37 0 5)) * (hi 37 0 6) → ((zInR (768 * a7)) ∧ ((zInR ((768 * a7) + a8)) ∧ ((0 ≤ (768 * a7) + a8 ∧ (768 * a7) + a8 < 231168) ∧ ((hi 57 0 ((768 * a7) + a8) ≠ 0 → (WP mX12_finds 295 [some (.inr (some (37, 0))), some (.inl l1), some (.inl l2), some (.inl l3), some (.inl l4), some (.inl a5), some (.inl a6), some (.inl a7), some (.inl a8), some (.inl 0), u10, none] [] hi hr (zQ1i hr P))) ∧ (hi 57 0 ((768 * a7) + a8) = 0 → ((zInR (a8 + 1)) ∧ (WP mX12_finds 256 [some (.inr (some (37, 0))), some (.inl l1), some (.inl l2), some (.inl l3), some (.inl l4), some (.inl a5), some (.inl a6), some (.inl a7), some (.inl (a8 + 1)), u9, u10, none] [] hi hr (zQ1i hr P)))))))))))) :
    WP mX12_finds 256 [some (.inr (some (37, 0))), some (.inl l1), some (.inl l2), some (.inl l3), some (.inl l4), some (.inl a5), some (.inl a6), some (.inl a7), some (.inl a8), u9, u10, none] [] hi hr (zQ1i hr P) :=
  WP.iload (pc2 := 258) (i := 8) rfl (by decide +kernel) rfl <|
  WP.iconst (pc2 := 259) (x := 3) rfl (by decide +kernel) (by decide) <|
  WP.aload_n (pc2 := 260) (i := 0) rfl (by decide +kernel) rfl <|
  WP.getI (pc2 := 263) rfl (by decide +kernel) zc_12 zSh_37 (by decide) rfl lf_X12_149 rfl rfl <|
  WP.imul (pc2 := 264) rfl (by decide +kernel) F.1 <|
  WP.aload_n (pc2 := 265) (i := 0) rfl (by decide +kernel) rfl <|
  WP.getI (pc2 := 268) rfl (by decide +kernel) zc_12 zSh_37 (by decide) rfl lf_X12_152 rfl rfl <|
  WP.imul (pc2 := 269) rfl (by decide +kernel) F.2.1 <|
  WP.icmp_ge (pc2 := 272) (off := 118) (tgt := 387) rfl (by decide +kernel) (by decide) (fun h117 => have f118 := F.2.2.1 h117
  WP.iinc (pc2 := 390) (i := 7) (d := -1) rfl (by decide +kernel) rfl f118.1 <|
  WP.goto (off := -142) (tgt := 248) (by decide +kernel) (by decide) <|
  f118.2) (fun h117 => have f119 := F.2.2.2 h117
  WP.aload_n (pc2 := 273) (i := 0) rfl (by decide +kernel) rfl <|
  WP.getR (pc2 := 276) rfl (by decide +kernel) zc_12 zSh_37 (by decide) rfl lf_X12_77 rfl (rs_37_33 hM) <|
  WP.sipush (pc2 := 279) (x := 768) rfl (by decide +kernel) ⟨by decide +kernel, by decide⟩ <|
  WP.iload (pc2 := 281) (i := 7) rfl (by decide +kernel) rfl <|
  WP.imul (pc2 := 282) rfl (by decide +kernel) f119.1 <|
  WP.iload (pc2 := 284) (i := 8) rfl (by decide +kernel) rfl <|
  WP.iadd (pc2 := 285) rfl (by decide +kernel) f119.2.1 <|
  WP.baload (pc2 := 286) rfl (by decide +kernel) zSh_57 (by decide) rfl f119.2.2.1 rfl <|
  WP.if_ne (pc2 := 289) (off := 6) (tgt := 292) rfl (by decide +kernel) (by decide) (fun h114 => have f115 := f119.2.2.2.1 h114
  WP.iconst (pc2 := 293) (x := 0) rfl (by decide +kernel) (by decide) <|
  WP.istore (pc2 := 295) (i := 9) rfl (by decide +kernel) (by decide) <|
  f115) (fun h114 => have f116 := f119.2.2.2.2 h114
  WP.goto (off := 92) (tgt := 381) (by decide +kernel) (by decide) <|
  WP.iinc (pc2 := 384) (i := 8) (d := 1) rfl (by decide +kernel) rfl f116.1 <|
  WP.goto (off := -128) (tgt := 256) (by decide +kernel) (by decide) <|
  f116.2))

set_option maxRecDepth 100000 in
set_option maxHeartbeats 4000000 in
theorem GX12_finds_461 {hi : zI} {hr : zR} {P : Int → zI → Prop} (hM : RSm hr) (l1 : Int) (l2 : Int) (l3 : Int) (l4 : Int) (a5 : Int) (a6 : Int) (a7 : Int) (a8 : Int) (a9 : Int) (a10 : Int) (u11 : Option zV) 
    (F : (a10 < 0 → ((a9 = a7 → ((zInR (301 * l1)) ∧ ((zInR ((301 * l1) + a8)) ∧ ((zInR (((301 * l1) + a8) + 1)) ∧ ((0 ≤ a9) ∧ ((0 ≤ ((301 * l1) + a8) + 1 ∧ ((301 * l1) + a8) + 1 < 1806) ∧ ((zInR (a8 + 1)) ∧ (WP mX12_finds 448 [some (.inr (some (37, 0))), some (.inl l1), some (.inl l2), some (.inl l3), some (.inl l4), some (.inl a5), some (.inl a6), some (.inl a9), some (.inl (a8 + 1)), some (.inl a9), some (.inl a10), u11] [] (zup hi 51 0 (((301 * l1) + a8) + 1) (a9 / 3)) hr (zQ1i hr P))))))))) ∧ (a9 ≠ a7 → ((0 ≤ l1 ∧ l1 < 6) ∧ ((zInR ((hi 54 0 l1) + 1)) ∧ ((0 ≤ l1 ∧ l1 < 6) ∧ ((zInR (301 * l1)) ∧ ((0 ≤ l1 ∧ l1 < 6) ∧ ((zInR ((301 * l1) + ((hi 54 0 l1) + 1))) ∧ ((0 ≤ a9) ∧ ((0 ≤ a7) ∧ ((a9 / 3 ≠ a7 / 3 → ((0 ≤ a9) ∧ ((0 ≤ (301 * l1) + ((hi 54 0 l1) + 1) ∧ (301 * l1) + ((hi 54 0 l1) + 1) < 1806) ∧ ((zInR (301 * l1)) ∧ ((0 ≤ l1 ∧ l1 < 6) ∧ ((zInR ((301 * l1) + ((hi 54 0 l1) + 1))) ∧ ((zInR (l4 + a8)) ∧ ((zInR ((l4 + a8) + 1)) ∧ ((0 ≤ (301 * l1) + ((hi 54 0 l1) + 1) ∧ (301 * l1) + ((hi 54 0 l1) + 1) < 1806) ∧ ((zInR (301 * l1)) ∧ ((zInR ((301 * l1) + a8)) ∧ ((zInR (((301 * l1) + a8) + 1)) ∧ ((0 ≤ a9) ∧ ((0 ≤ ((301 * l1) + a8) + 1 ∧ ((301 * l1) + a8) + 1 < 1806) ∧ ((zInR (a8 + 1)) ∧ (WP mX12_finds 448 [some (.inr (some (37, 0))), some (.inl l1), some (.inl l2), some (.inl l3), some (.inl l4), some (.inl a5), some (.inl a6), some (.inl a9), some (.inl (a8 + 1)), some (.inl a9), some (.inl a10), u11] [] (zup (zup (zup (zup hi 54 0 l1 ((hi 54 0 l1) + 1)) 55 0 ((301 * l1) + ((hi 54 0 l1) + 1)) (a9 / 3)) 56 0 ((301 * l1) + ((hi 54 0 l1) + 1)) ((l4 + a8) + 1)) 51 0 (((301 * l1) + a8) + 1) (a9 / 3)) hr (zQ1i hr P))))))))))))))))) ∧ (a9 / 3 = a7 / 3 → ((0 ≤ (301 * l1) + ((hi 54 0 l1) + 1) ∧ (301 * l1) + ((hi 54 0 l1) + 1) < 1806) ∧ ((zInR (301 * l1)) ∧ ((0 ≤ l1 ∧ l1 < 6) ∧ ((zInR ((301 * l1) + ((hi 54 0 l1) + 1))) ∧ ((zInR (l4 + a8)) ∧ ((zInR ((l4 + a8) + 1)) ∧ ((0 ≤ (301 * l1) + ((hi 54 0 l1) + 1) ∧ (301 * l1) + ((hi 54 0 l1) + 1) < 1806) ∧ ((zInR (301 * l1)) ∧ ((zInR ((301 * l1) + a8)) ∧ ((zInR (((301 * l1) + a8) + 1)) ∧ ((0 ≤ a9) ∧ ((0 ≤ ((301 * l1) + a8) + 1 ∧ ((301 * l1) + a8) + 1 < 1806) ∧ ((zInR (a8 + 1)) ∧ (WP mX12_finds 448 [some (.inr (some (37, 0))), some (.inl l1), some (.inl l2), some (.inl l3), some (.inl l4), some (.inl a5), some (.inl a6), some (.inl a9), some (.inl (a8 + 1)), some (.inl a9), some (.inl a10), u11] [] (zup (zup (zup (zup hi 54 0 l1 ((hi 54 0 l1) + 1)) 55 0 ((301 * l1) + ((hi 54 0 l1) + 1)) (-1)) 56 0 ((301 * l1) + ((hi 54 0 l1) + 1)) ((l4 + a8) + 1)) 51 0 (((301 * l1) + a8) + 1) (a9 / 3)) hr (zQ1i hr P)))))))))))))))))))))))))))) ∧ (0 ≤ a10 → (W0i mX12_leadsTo [.inr (some (37, 0)), .inl l1, .inl l2, .inl l3, .inl a7, .inl a10] hi hr (fun (x148 : Int) => (x148 = -1 → ((zInR (a10 + (-1))) ∧ (WP mX12_finds 461 [some (.inr (some (37, 0))), some (.inl l1), some (.inl l2), some (.inl l3), some (.inl l4), some (.inl a5), some (.inl a6), some (.inl a7), some (.inl a8), some (.inl a9), some (.inl (a10 + (-1))), some (.inl x148)] [] hi hr (zQ1i hr P)))) ∧ (x148 ≠ -1 → ((zInR (a8 + 1)) ∧ ((zInR (768 * (a8 + 1))) ∧ ((zInR ((768 * (a8 + 1)) + x148)) ∧ ((0 ≤ (768 * (a8 + 1)) + x148 ∧ (768 * (a8 + 1)) + x148 < 231168) ∧ ((hi 58 0 ((768 * (a8 + 1)) + x148) = 0 → ((zInR (a10 + (-1))) ∧ (WP mX12_finds 461 [some (.inr (some (37, 0))), some (.inl l1), some (.inl l2), some (.inl l3), some (.inl l4), some (.inl a5), some (.inl a6), some (.inl a7), some (.inl a8), some (.inl a9), some (.inl (a10 + (-1))), some (.inl x148)] [] hi hr (zQ1i hr P)))) ∧ (hi 58 0 ((768 * (a8 + 1)) + x148) ≠ 0 → ((zInR (l4 + a8)) ∧ ((0 ≤ a7) ∧ ((0 ≤ x148) ∧ (W0i mX12_isClear [.inr (some (37, 0)), .inl l1, .inl (l4 + a8), .inl (a7 / 3), .inl (x148 / 3)] hi hr (fun (x149 : Int) => (x149 = 0 → ((zInR (a10 + (-1))) ∧ (WP mX12_finds 461 [some (.inr (some (37, 0))), some (.inl l1), some (.inl l2), some (.inl l3), some (.inl l4), some (.inl a5), some (.inl a6), some (.inl a7), some (.inl a8), some (.inl a9), some (.inl (a10 + (-1))), some (.inl x148)] [] hi hr (zQ1i hr P)))) ∧ (x149 ≠ 0 → ((zInR (a10 + (-1))) ∧ (WP mX12_finds 461 [some (.inr (some (37, 0))), some (.inl l1), some (.inl l2), some (.inl l3), some (.inl l4), some (.inl a5), some (.inl a6), some (.inl a7), some (.inl a8), some (.inl x148), some (.inl (a10 + (-1))), some (.inl x148)] [] hi hr (zQ1i hr P)))))))))))))))))))) :
    WP mX12_finds 461 [some (.inr (some (37, 0))), some (.inl l1), some (.inl l2), some (.inl l3), some (.inl l4), some (.inl a5), some (.inl a6), some (.inl a7), some (.inl a8), some (.inl a9), some (.inl a10), u11] [] hi hr (zQ1i hr P) :=
  WP.iload (pc2 := 463) (i := 10) rfl (by decide +kernel) rfl <|
  WP.if_lt (pc2 := 466) (off := 72) (tgt := 535) rfl (by decide +kernel) (by decide) (fun h161 => have f162 := F.1 h161
  WP.iload (pc2 := 537) (i := 9) rfl (by decide +kernel) rfl <|
  WP.iload (pc2 := 539) (i := 7) rfl (by decide +kernel) rfl <|
  WP.icmp_eq (pc2 := 542) (off := 73) (tgt := 612) rfl (by decide +kernel) (by decide) (fun h145 => have f146 := f162.1 h145
  WP.iload (pc2 := 614) (i := 9) rfl (by decide +kernel) rfl <|
  WP.istore (pc2 := 616) (i := 7) rfl (by decide +kernel) (by decide) <|
  WP.aload_n (pc2 := 617) (i := 0) rfl (by decide +kernel) rfl <|
  WP.getR (pc2 := 620) rfl (by decide +kernel) zc_12 zSh_37 (by decide) rfl lf_X12_58 rfl (rs_37_27 hM) <|
  WP.sipush (pc2 := 623) (x := 301) rfl (by decide +kernel) ⟨by decide +kernel, by decide⟩ <|
  WP.iload_n (pc2 := 624) (i := 1) rfl (by decide +kernel) rfl <|
  WP.imul (pc2 := 625) rfl (by decide +kernel) f146.1 <|
  WP.iload (pc2 := 627) (i := 8) rfl (by decide +kernel) rfl <|
  WP.iadd (pc2 := 628) rfl (by decide +kernel) f146.2.1 <|
  WP.iconst (pc2 := 629) (x := 1) rfl (by decide +kernel) (by decide) <|
  WP.iadd (pc2 := 630) rfl (by decide +kernel) f146.2.2.1 <|
  WP.iload (pc2 := 632) (i := 7) rfl (by decide +kernel) rfl <|
  WP.iconst (pc2 := 633) (x := 3) rfl (by decide +kernel) (by decide) <|
  WP.idiv (pc2 := 634) rfl (by decide +kernel) f146.2.2.2.1 (by decide) <|
  WP.iastore (pc2 := 635) rfl (by decide +kernel) zSh_51 rfl f146.2.2.2.2.1 <|
  WP.iinc (pc2 := 638) (i := 8) (d := 1) rfl (by decide +kernel) rfl f146.2.2.2.2.2.1 <|
  WP.goto (off := -190) (tgt := 448) (by decide +kernel) (by decide) <|
  f146.2.2.2.2.2.2) (fun h145 => have f147 := f162.2 h145
  WP.aload_n (pc2 := 543) (i := 0) rfl (by decide +kernel) rfl <|
  WP.getR (pc2 := 546) rfl (by decide +kernel) zc_12 zSh_37 (by decide) rfl lf_X12_67 rfl (rs_37_30 hM) <|
  WP.iload_n (pc2 := 547) (i := 1) rfl (by decide +kernel) rfl <|
  WP.dup2 (pc2 := 548) rfl (by decide +kernel) <|
  WP.iaload (pc2 := 549) rfl (by decide +kernel) zSh_54 rfl f147.1 rfl <|
  WP.iconst (pc2 := 550) (x := 1) rfl (by decide +kernel) (by decide) <|
  WP.iadd (pc2 := 551) rfl (by decide +kernel) f147.2.1 <|
  WP.iastore (pc2 := 552) rfl (by decide +kernel) zSh_54 rfl f147.2.2.1 <|
  WP.aload_n (pc2 := 553) (i := 0) rfl (by decide +kernel) rfl <|
  WP.getR (pc2 := 556) rfl (by decide +kernel) zc_12 zSh_37 (by decide) rfl lf_X12_70 rfl (rs_37_31 hM) <|
  WP.sipush (pc2 := 559) (x := 301) rfl (by decide +kernel) ⟨by decide +kernel, by decide⟩ <|
  WP.iload_n (pc2 := 560) (i := 1) rfl (by decide +kernel) rfl <|
  WP.imul (pc2 := 561) rfl (by decide +kernel) f147.2.2.2.1 <|
  WP.aload_n (pc2 := 562) (i := 0) rfl (by decide +kernel) rfl <|
  WP.getR (pc2 := 565) rfl (by decide +kernel) zc_12 zSh_37 (by decide) rfl lf_X12_67 rfl (rs_37_30 hM) <|
  WP.iload_n (pc2 := 566) (i := 1) rfl (by decide +kernel) rfl <|
  WP.iaload (pc2 := 567) rfl (by decide +kernel) zSh_54 rfl f147.2.2.2.2.1 (zup_s _ _ _ _ _) <|
  WP.iadd (pc2 := 568) rfl (by decide +kernel) f147.2.2.2.2.2.1 <|
  WP.iload (pc2 := 570) (i := 9) rfl (by decide +kernel) rfl <|
  WP.iconst (pc2 := 571) (x := 3) rfl (by decide +kernel) (by decide) <|
  WP.idiv (pc2 := 572) rfl (by decide +kernel) f147.2.2.2.2.2.2.1 (by decide) <|
  WP.iload (pc2 := 574) (i := 7) rfl (by decide +kernel) rfl <|
  WP.iconst (pc2 := 575) (x := 3) rfl (by decide +kernel) (by decide) <|
  WP.idiv (pc2 := 576) rfl (by decide +kernel) f147.2.2.2.2.2.2.2.1 (by decide) <|
  WP.icmp_ne (pc2 := 579) (off := 7) (tgt := 583) rfl (by decide +kernel) (by decide) (fun h142 => have f143 := f147.2.2.2.2.2.2.2.2.1 h142
  WP.iload (pc2 := 585) (i := 9) rfl (by decide +kernel) rfl <|
  WP.iconst (pc2 := 586) (x := 3) rfl (by decide +kernel) (by decide) <|
  WP.idiv (pc2 := 587) rfl (by decide +kernel) f143.1 (by decide) <|
  WP.iastore (pc2 := 588) rfl (by decide +kernel) zSh_55 rfl f143.2.1 <|
  WP.aload_n (pc2 := 589) (i := 0) rfl (by decide +kernel) rfl <|
  WP.getR (pc2 := 592) rfl (by decide +kernel) zc_12 zSh_37 (by decide) rfl lf_X12_73 rfl (rs_37_32 hM) <|
  WP.sipush (pc2 := 595) (x := 301) rfl (by decide +kernel) ⟨by decide +kernel, by decide⟩ <|
  WP.iload_n (pc2 := 596) (i := 1) rfl (by decide +kernel) rfl <|
  WP.imul (pc2 := 597) rfl (by decide +kernel) f143.2.2.1 <|
  WP.aload_n (pc2 := 598) (i := 0) rfl (by decide +kernel) rfl <|
  WP.getR (pc2 := 601) rfl (by decide +kernel) zc_12 zSh_37 (by decide) rfl lf_X12_67 rfl (rs_37_30 hM) <|
  WP.iload_n (pc2 := 602) (i := 1) rfl (by decide +kernel) rfl <|
  WP.iaload (pc2 := 603) rfl (by decide +kernel) zSh_54 rfl f143.2.2.2.1 ((zup_k _ _ _ _ _ _ (by decide)).trans (zup_s _ _ _ _ _)) <|
  WP.iadd (pc2 := 604) rfl (by decide +kernel) f143.2.2.2.2.1 <|
  WP.iload (pc2 := 606) (i := 4) rfl (by decide +kernel) rfl <|
  WP.iload (pc2 := 608) (i := 8) rfl (by decide +kernel) rfl <|
  WP.iadd (pc2 := 609) rfl (by decide +kernel) f143.2.2.2.2.2.1 <|
  WP.iconst (pc2 := 610) (x := 1) rfl (by decide +kernel) (by decide) <|
  WP.iadd (pc2 := 611) rfl (by decide +kernel) f143.2.2.2.2.2.2.1 <|
  WP.iastore (pc2 := 612) rfl (by decide +kernel) zSh_56 rfl f143.2.2.2.2.2.2.2.1 <|
  WP.iload (pc2 := 614) (i := 9) rfl (by decide +kernel) rfl <|
  WP.istore (pc2 := 616) (i := 7) rfl (by decide +kernel) (by decide) <|
  WP.aload_n (pc2 := 617) (i := 0) rfl (by decide +kernel) rfl <|
  WP.getR (pc2 := 620) rfl (by decide +kernel) zc_12 zSh_37 (by decide) rfl lf_X12_58 rfl (rs_37_27 hM) <|
  WP.sipush (pc2 := 623) (x := 301) rfl (by decide +kernel) ⟨by decide +kernel, by decide⟩ <|
  WP.iload_n (pc2 := 624) (i := 1) rfl (by decide +kernel) rfl <|
  WP.imul (pc2 := 625) rfl (by decide +kernel) f143.2.2.2.2.2.2.2.2.1 <|
  WP.iload (pc2 := 627) (i := 8) rfl (by decide +kernel) rfl <|
  WP.iadd (pc2 := 628) rfl (by decide +kernel) f143.2.2.2.2.2.2.2.2.2.1 <|
  WP.iconst (pc2 := 629) (x := 1) rfl (by decide +kernel) (by decide) <|
  WP.iadd (pc2 := 630) rfl (by decide +kernel) f143.2.2.2.2.2.2.2.2.2.2.1 <|
  WP.iload (pc2 := 632) (i := 7) rfl (by decide +kernel) rfl <|
  WP.iconst (pc2 := 633) (x := 3) rfl (by decide +kernel) (by decide) <|
  WP.idiv (pc2 := 634) rfl (by decide +kernel) f143.2.2.2.2.2.2.2.2.2.2.2.1 (by decide) <|
  WP.iastore (pc2 := 635) rfl (by decide +kernel) zSh_51 rfl f143.2.2.2.2.2.2.2.2.2.2.2.2.1 <|
  WP.iinc (pc2 := 638) (i := 8) (d := 1) rfl (by decide +kernel) rfl f143.2.2.2.2.2.2.2.2.2.2.2.2.2.1 <|
  WP.goto (off := -190) (tgt := 448) (by decide +kernel) (by decide) <|
  f143.2.2.2.2.2.2.2.2.2.2.2.2.2.2) (fun h142 => have f144 := f147.2.2.2.2.2.2.2.2.2 h142
  WP.iconst (pc2 := 580) (x := -1) rfl (by decide +kernel) (by decide) <|
  WP.goto (off := 7) (tgt := 587) (by decide +kernel) (by decide) <|
  WP.iastore (pc2 := 588) rfl (by decide +kernel) zSh_55 rfl f144.1 <|
  WP.aload_n (pc2 := 589) (i := 0) rfl (by decide +kernel) rfl <|
  WP.getR (pc2 := 592) rfl (by decide +kernel) zc_12 zSh_37 (by decide) rfl lf_X12_73 rfl (rs_37_32 hM) <|
  WP.sipush (pc2 := 595) (x := 301) rfl (by decide +kernel) ⟨by decide +kernel, by decide⟩ <|
  WP.iload_n (pc2 := 596) (i := 1) rfl (by decide +kernel) rfl <|
  WP.imul (pc2 := 597) rfl (by decide +kernel) f144.2.1 <|
  WP.aload_n (pc2 := 598) (i := 0) rfl (by decide +kernel) rfl <|
  WP.getR (pc2 := 601) rfl (by decide +kernel) zc_12 zSh_37 (by decide) rfl lf_X12_67 rfl (rs_37_30 hM) <|
  WP.iload_n (pc2 := 602) (i := 1) rfl (by decide +kernel) rfl <|
  WP.iaload (pc2 := 603) rfl (by decide +kernel) zSh_54 rfl f144.2.2.1 ((zup_k _ _ _ _ _ _ (by decide)).trans (zup_s _ _ _ _ _)) <|
  WP.iadd (pc2 := 604) rfl (by decide +kernel) f144.2.2.2.1 <|
  WP.iload (pc2 := 606) (i := 4) rfl (by decide +kernel) rfl <|
  WP.iload (pc2 := 608) (i := 8) rfl (by decide +kernel) rfl <|
  WP.iadd (pc2 := 609) rfl (by decide +kernel) f144.2.2.2.2.1 <|
  WP.iconst (pc2 := 610) (x := 1) rfl (by decide +kernel) (by decide) <|
  WP.iadd (pc2 := 611) rfl (by decide +kernel) f144.2.2.2.2.2.1 <|
  WP.iastore (pc2 := 612) rfl (by decide +kernel) zSh_56 rfl f144.2.2.2.2.2.2.1 <|
  WP.iload (pc2 := 614) (i := 9) rfl (by decide +kernel) rfl <|
  WP.istore (pc2 := 616) (i := 7) rfl (by decide +kernel) (by decide) <|
  WP.aload_n (pc2 := 617) (i := 0) rfl (by decide +kernel) rfl <|
  WP.getR (pc2 := 620) rfl (by decide +kernel) zc_12 zSh_37 (by decide) rfl lf_X12_58 rfl (rs_37_27 hM) <|
  WP.sipush (pc2 := 623) (x := 301) rfl (by decide +kernel) ⟨by decide +kernel, by decide⟩ <|
  WP.iload_n (pc2 := 624) (i := 1) rfl (by decide +kernel) rfl <|
  WP.imul (pc2 := 625) rfl (by decide +kernel) f144.2.2.2.2.2.2.2.1 <|
  WP.iload (pc2 := 627) (i := 8) rfl (by decide +kernel) rfl <|
  WP.iadd (pc2 := 628) rfl (by decide +kernel) f144.2.2.2.2.2.2.2.2.1 <|
  WP.iconst (pc2 := 629) (x := 1) rfl (by decide +kernel) (by decide) <|
  WP.iadd (pc2 := 630) rfl (by decide +kernel) f144.2.2.2.2.2.2.2.2.2.1 <|
  WP.iload (pc2 := 632) (i := 7) rfl (by decide +kernel) rfl <|
  WP.iconst (pc2 := 633) (x := 3) rfl (by decide +kernel) (by decide) <|
  WP.idiv (pc2 := 634) rfl (by decide +kernel) f144.2.2.2.2.2.2.2.2.2.2.1 (by decide) <|
  WP.iastore (pc2 := 635) rfl (by decide +kernel) zSh_51 rfl f144.2.2.2.2.2.2.2.2.2.2.2.1 <|
  WP.iinc (pc2 := 638) (i := 8) (d := 1) rfl (by decide +kernel) rfl f144.2.2.2.2.2.2.2.2.2.2.2.2.1 <|
  WP.goto (off := -190) (tgt := 448) (by decide +kernel) (by decide) <|
  f144.2.2.2.2.2.2.2.2.2.2.2.2.2))) (fun h161 => have f163 := F.2 h161
  WP.aload_n (pc2 := 467) (i := 0) rfl (by decide +kernel) rfl <|
  WP.iload_n (pc2 := 468) (i := 1) rfl (by decide +kernel) rfl <|
  WP.iload_n (pc2 := 469) (i := 2) rfl (by decide +kernel) rfl <|
  WP.iload_n (pc2 := 470) (i := 3) rfl (by decide +kernel) rfl <|
  WP.iload (pc2 := 472) (i := 7) rfl (by decide +kernel) rfl <|
  WP.iload (pc2 := 474) (i := 10) rfl (by decide +kernel) rfl <|
  WP.callV (y := mX12_finds) (index := 228) (pc2 := 477) (y' := mX12_leadsTo) (vs := [.inl l1, .inl l2, .inl l3, .inl a7, .inl a10]) rfl (by decide +kernel) okX12_leadsTo ⟨by decide, by decide⟩ ⟨lm_X12_228, ivX12_leadsTo⟩ zSh_37 zc_12 (Nat.le_of_ble_eq_true rfl) ⟨rfl, rfl⟩ rfl (WP.c0i f163 (fun x148 _ f160 =>
  WP.istore (pc2 := 479) (i := 11) rfl (by decide +kernel) (by decide) <|
  WP.iload (pc2 := 481) (i := 11) rfl (by decide +kernel) rfl <|
  WP.iconst (pc2 := 482) (x := -1) rfl (by decide +kernel) (by decide) <|
  WP.icmp_eq (pc2 := 485) (off := 47) (tgt := 529) rfl (by decide +kernel) (by decide) (fun h157 => have f158 := f160.1 h157
  WP.iinc (pc2 := 532) (i := 10) (d := -1) rfl (by decide +kernel) rfl f158.1 <|
  WP.goto (off := -71) (tgt := 461) (by decide +kernel) (by decide) <|
  f158.2) (fun h157 => have f159 := f160.2 h157
  WP.aload_n (pc2 := 486) (i := 0) rfl (by decide +kernel) rfl <|
  WP.getR (pc2 := 489) rfl (by decide +kernel) zc_12 zSh_37 (by decide) rfl lf_X12_80 rfl (rs_37_34 hM) <|
  WP.sipush (pc2 := 492) (x := 768) rfl (by decide +kernel) ⟨by decide +kernel, by decide⟩ <|
  WP.iload (pc2 := 494) (i := 8) rfl (by decide +kernel) rfl <|
  WP.iconst (pc2 := 495) (x := 1) rfl (by decide +kernel) (by decide) <|
  WP.iadd (pc2 := 496) rfl (by decide +kernel) f159.1 <|
  WP.imul (pc2 := 497) rfl (by decide +kernel) f159.2.1 <|
  WP.iload (pc2 := 499) (i := 11) rfl (by decide +kernel) rfl <|
  WP.iadd (pc2 := 500) rfl (by decide +kernel) f159.2.2.1 <|
  WP.baload (pc2 := 501) rfl (by decide +kernel) zSh_58 (by decide) rfl f159.2.2.2.1 rfl <|
  WP.if_eq (pc2 := 504) (off := 28) (tgt := 529) rfl (by decide +kernel) (by decide) (fun h154 => have f155 := f159.2.2.2.2.1 h154
  WP.iinc (pc2 := 532) (i := 10) (d := -1) rfl (by decide +kernel) rfl f155.1 <|
  WP.goto (off := -71) (tgt := 461) (by decide +kernel) (by decide) <|
  f155.2) (fun h154 => have f156 := f159.2.2.2.2.2 h154
  WP.aload_n (pc2 := 505) (i := 0) rfl (by decide +kernel) rfl <|
  WP.iload_n (pc2 := 506) (i := 1) rfl (by decide +kernel) rfl <|
  WP.iload (pc2 := 508) (i := 4) rfl (by decide +kernel) rfl <|
  WP.iload (pc2 := 510) (i := 8) rfl (by decide +kernel) rfl <|
  WP.iadd (pc2 := 511) rfl (by decide +kernel) f156.1 <|
  WP.iload (pc2 := 513) (i := 7) rfl (by decide +kernel) rfl <|
  WP.iconst (pc2 := 514) (x := 3) rfl (by decide +kernel) (by decide) <|
  WP.idiv (pc2 := 515) rfl (by decide +kernel) f156.2.1 (by decide) <|
  WP.iload (pc2 := 517) (i := 11) rfl (by decide +kernel) rfl <|
  WP.iconst (pc2 := 518) (x := 3) rfl (by decide +kernel) (by decide) <|
  WP.idiv (pc2 := 519) rfl (by decide +kernel) f156.2.2.1 (by decide) <|
  WP.callV (y := mX12_finds) (index := 232) (pc2 := 522) (y' := mX12_isClear) (vs := [.inl l1, .inl (l4 + a8), .inl (a7 / 3), .inl (x148 / 3)]) rfl (by decide +kernel) okX12_isClear ⟨by decide, by decide⟩ ⟨lm_X12_232, ivX12_isClear⟩ zSh_37 zc_12 (Nat.le_of_ble_eq_true rfl) ⟨rfl, rfl⟩ rfl (WP.c0i f156.2.2.2 (fun x149 _ f153 =>
  WP.if_eq (pc2 := 525) (off := 7) (tgt := 529) rfl (by decide +kernel) (by decide) (fun h150 => have f151 := f153.1 h150
  WP.iinc (pc2 := 532) (i := 10) (d := -1) rfl (by decide +kernel) rfl f151.1 <|
  WP.goto (off := -71) (tgt := 461) (by decide +kernel) (by decide) <|
  f151.2) (fun h150 => have f152 := f153.2 h150
  WP.iload (pc2 := 527) (i := 11) rfl (by decide +kernel) rfl <|
  WP.istore (pc2 := 529) (i := 9) rfl (by decide +kernel) (by decide) <|
  WP.iinc (pc2 := 532) (i := 10) (d := -1) rfl (by decide +kernel) rfl f152.1 <|
  WP.goto (off := -71) (tgt := 461) (by decide +kernel) (by decide) <|
  f152.2))))))))

set_option maxRecDepth 100000 in
set_option maxHeartbeats 4000000 in
theorem GX12_finds_448 {hi : zI} {hr : zR} {P : Int → zI → Prop} (l1 : Int) (l2 : Int) (l3 : Int) (l4 : Int) (a5 : Int) (a6 : Int) (a7 : Int) (a8 : Int) (u9 : Option zV) (u10 : Option zV) (u11 : Option zV) 
    (F : (a6 ≤ a8 → P 1 hi) ∧ (a8 < a6 → (WP mX12_finds 461 [some (.inr (some (37, 0))), some (.inl l1), some (.inl l2), some (.inl l3), some (.inl l4), some (.inl a5), some (.inl a6), some (.inl a7), some (.inl a8), some (.inl (-1)), some (.inl 4), u11] [] hi hr (zQ1i hr P)))) :
    WP mX12_finds 448 [some (.inr (some (37, 0))), some (.inl l1), some (.inl l2), some (.inl l3), some (.inl l4), some (.inl a5), some (.inl a6), some (.inl a7), some (.inl a8), u9, u10, u11] [] hi hr (zQ1i hr P) :=
  WP.iload (pc2 := 450) (i := 8) rfl (by decide +kernel) rfl <|
  WP.iload (pc2 := 452) (i := 6) rfl (by decide +kernel) rfl <|
  WP.icmp_ge (pc2 := 455) (off := 189) (tgt := 641) rfl (by decide +kernel) (by decide) (fun h164 => have f165 := F.1 h164
  WP.iconst (pc2 := 642) (x := 1) rfl (by decide +kernel) (by decide) <|
  WP.zret (by decide +kernel) rfl (by decide) (fun hx => ⟨_, rfl, hx, rfl, f165⟩)) (fun h164 => have f166 := F.2 h164
  WP.iconst (pc2 := 456) (x := -1) rfl (by decide +kernel) (by decide) <|
  WP.istore (pc2 := 458) (i := 9) rfl (by decide +kernel) (by decide) <|
  WP.iconst (pc2 := 459) (x := 4) rfl (by decide +kernel) (by decide) <|
  WP.istore (pc2 := 461) (i := 10) rfl (by decide +kernel) (by decide) <|
  f166)

set_option maxRecDepth 100000 in
set_option maxHeartbeats 4000000 in
theorem GX12_finds_295 {hi : zI} {hr : zR} {P : Int → zI → Prop} (hM : RSm hr) (l1 : Int) (l2 : Int) (l3 : Int) (l4 : Int) (a5 : Int) (a6 : Int) (a7 : Int) (a8 : Int) (a9 : Int) (u10 : Option zV) 
    (F : (5 ≤ a9 → ((zInR (a8 + 1)) ∧ (WP mX12_finds 256 [some (.inr (some (37, 0))), some (.inl l1), some (.inl l2), some (.inl l3), some (.inl l4), some (.inl a5), some (.inl a6), some (.inl a7), some (.inl (a8 + 1)), some (.inl a9), u10, none] [] hi hr (zQ1i hr P)))) ∧ (a9 < 5 → (W0i mX12_leadsTo [.inr (some (37, 0)), .inl l1, .inl l2, .inl l3, .inl a8, .inl a9] hi hr (fun (x167 : Int) => (x167 = -1 → ((zInR (a9 + 1)) ∧ (WP mX12_finds 295 [some (.inr (some (37, 0))), some (.inl l1), some (.inl l2), some (.inl l3), some (.inl l4), some (.inl a5), some (.inl a6), some (.inl a7), some (.inl a8), some (.inl (a9 + 1)), some (.inl x167), none] [] hi hr (zQ1i hr P)))) ∧ (x167 ≠ -1 → ((zInR (a7 + 1)) ∧ ((zInR (768 * (a7 + 1))) ∧ ((zInR ((768 * (a7 + 1)) + x167)) ∧ ((0 ≤ (768 * (a7 + 1)) + x167 ∧ (768 * (a7 + 1)) + x167 < 231168) ∧ ((hi 58 0 ((768 * (a7 + 1)) + x167) = 0 → ((zInR (a9 + 1)) ∧ (WP mX12_finds 295 [some (.inr (some (37, 0))), some (.inl l1), some (.inl l2), some (.inl l3), some (.inl l4), some (.inl a5), some (.inl a6), some (.inl a7), some (.inl a8), some (.inl (a9 + 1)), some (.inl x167), none] [] hi hr (zQ1i hr P)))) ∧ (hi 58 0 ((768 * (a7 + 1)) + x167) ≠ 0 → ((zInR (l4 + a7)) ∧ ((0 ≤ a8) ∧ ((0 ≤ x167) ∧ (W0i mX12_isClear [.inr (some (37, 0)), .inl l1, .inl (l4 + a7), .inl (a8 / 3), .inl (x167 / 3)] hi hr (fun (x168 : Int) => (x168 = 0 → ((zInR (a9 + 1)) ∧ (WP mX12_finds 295 [some (.inr (some (37, 0))), some (.inl l1), some (.inl l2), some (.inl l3), some (.inl l4), some (.inl a5), some (.inl a6), some (.inl a7), some (.inl a8), some (.inl (a9 + 1)), some (.inl x167), none] [] hi hr (zQ1i hr P)))) ∧ (x168 ≠ 0 → ((zInR (768 * a7)) ∧ ((zInR ((768 * a7) + a8)) ∧ ((0 ≤ (768 * a7) + a8 ∧ (768 * a7) + a8 < 231168) ∧ ((zInR (a9 + 1)) ∧ (WP mX12_finds 295 [some (.inr (some (37, 0))), some (.inl l1), some (.inl l2), some (.inl l3), some (.inl l4), some (.inl a5), some (.inl a6), some (.inl a7), some (.inl a8), some (.inl (a9 + 1)), some (.inl x167), none] [] (zup hi 58 0 ((768 * a7) + a8) 1) hr (zQ1i hr P))))))))))))))))))))))) :
    WP mX12_finds 295 [some (.inr (some (37, 0))), some (.inl l1), some (.inl l2), some (.inl l3), some (.inl l4), some (.inl a5), some (.inl a6), some (.inl a7), some (.inl a8), some (.inl a9), u10, none] [] hi hr (zQ1i hr P) :=
  WP.iload (pc2 := 297) (i := 9) rfl (by decide +kernel) rfl <|
  WP.iconst (pc2 := 298) (x := 5) rfl (by decide +kernel) (by decide) <|
  WP.icmp_ge (pc2 := 301) (off := 83) (tgt := 381) rfl (by decide +kernel) (by decide) (fun h180 => have f181 := F.1 h180
  WP.iinc (pc2 := 384) (i := 8) (d := 1) rfl (by decide +kernel) rfl f181.1 <|
  WP.goto (off := -128) (tgt := 256) (by decide +kernel) (by decide) <|
  f181.2) (fun h180 => have f182 := F.2 h180
  WP.aload_n (pc2 := 302) (i := 0) rfl (by decide +kernel) rfl <|
  WP.iload_n (pc2 := 303) (i := 1) rfl (by decide +kernel) rfl <|
  WP.iload_n (pc2 := 304) (i := 2) rfl (by decide +kernel) rfl <|
  WP.iload_n (pc2 := 305) (i := 3) rfl (by decide +kernel) rfl <|
  WP.iload (pc2 := 307) (i := 8) rfl (by decide +kernel) rfl <|
  WP.iload (pc2 := 309) (i := 9) rfl (by decide +kernel) rfl <|
  WP.callV (y := mX12_finds) (index := 228) (pc2 := 312) (y' := mX12_leadsTo) (vs := [.inl l1, .inl l2, .inl l3, .inl a8, .inl a9]) rfl (by decide +kernel) okX12_leadsTo ⟨by decide, by decide⟩ ⟨lm_X12_228, ivX12_leadsTo⟩ zSh_37 zc_12 (Nat.le_of_ble_eq_true rfl) ⟨rfl, rfl⟩ rfl (WP.c0i f182 (fun x167 _ f179 =>
  WP.istore (pc2 := 314) (i := 10) rfl (by decide +kernel) (by decide) <|
  WP.iload (pc2 := 316) (i := 10) rfl (by decide +kernel) rfl <|
  WP.iconst (pc2 := 317) (x := -1) rfl (by decide +kernel) (by decide) <|
  WP.icmp_eq (pc2 := 320) (off := 58) (tgt := 375) rfl (by decide +kernel) (by decide) (fun h176 => have f177 := f179.1 h176
  WP.iinc (pc2 := 378) (i := 9) (d := 1) rfl (by decide +kernel) rfl f177.1 <|
  WP.goto (off := -83) (tgt := 295) (by decide +kernel) (by decide) <|
  f177.2) (fun h176 => have f178 := f179.2 h176
  WP.aload_n (pc2 := 321) (i := 0) rfl (by decide +kernel) rfl <|
  WP.getR (pc2 := 324) rfl (by decide +kernel) zc_12 zSh_37 (by decide) rfl lf_X12_80 rfl (rs_37_34 hM) <|
  WP.sipush (pc2 := 327) (x := 768) rfl (by decide +kernel) ⟨by decide +kernel, by decide⟩ <|
  WP.iload (pc2 := 329) (i := 7) rfl (by decide +kernel) rfl <|
  WP.iconst (pc2 := 330) (x := 1) rfl (by decide +kernel) (by decide) <|
  WP.iadd (pc2 := 331) rfl (by decide +kernel) f178.1 <|
  WP.imul (pc2 := 332) rfl (by decide +kernel) f178.2.1 <|
  WP.iload (pc2 := 334) (i := 10) rfl (by decide +kernel) rfl <|
  WP.iadd (pc2 := 335) rfl (by decide +kernel) f178.2.2.1 <|
  WP.baload (pc2 := 336) rfl (by decide +kernel) zSh_58 (by decide) rfl f178.2.2.2.1 rfl <|
  WP.if_eq (pc2 := 339) (off := 39) (tgt := 375) rfl (by decide +kernel) (by decide) (fun h173 => have f174 := f178.2.2.2.2.1 h173
  WP.iinc (pc2 := 378) (i := 9) (d := 1) rfl (by decide +kernel) rfl f174.1 <|
  WP.goto (off := -83) (tgt := 295) (by decide +kernel) (by decide) <|
  f174.2) (fun h173 => have f175 := f178.2.2.2.2.2 h173
  WP.aload_n (pc2 := 340) (i := 0) rfl (by decide +kernel) rfl <|
  WP.iload_n (pc2 := 341) (i := 1) rfl (by decide +kernel) rfl <|
  WP.iload (pc2 := 343) (i := 4) rfl (by decide +kernel) rfl <|
  WP.iload (pc2 := 345) (i := 7) rfl (by decide +kernel) rfl <|
  WP.iadd (pc2 := 346) rfl (by decide +kernel) f175.1 <|
  WP.iload (pc2 := 348) (i := 8) rfl (by decide +kernel) rfl <|
  WP.iconst (pc2 := 349) (x := 3) rfl (by decide +kernel) (by decide) <|
  WP.idiv (pc2 := 350) rfl (by decide +kernel) f175.2.1 (by decide) <|
  WP.iload (pc2 := 352) (i := 10) rfl (by decide +kernel) rfl <|
  WP.iconst (pc2 := 353) (x := 3) rfl (by decide +kernel) (by decide) <|
  WP.idiv (pc2 := 354) rfl (by decide +kernel) f175.2.2.1 (by decide) <|
  WP.callV (y := mX12_finds) (index := 232) (pc2 := 357) (y' := mX12_isClear) (vs := [.inl l1, .inl (l4 + a7), .inl (a8 / 3), .inl (x167 / 3)]) rfl (by decide +kernel) okX12_isClear ⟨by decide, by decide⟩ ⟨lm_X12_232, ivX12_isClear⟩ zSh_37 zc_12 (Nat.le_of_ble_eq_true rfl) ⟨rfl, rfl⟩ rfl (WP.c0i f175.2.2.2 (fun x168 _ f172 =>
  WP.if_eq (pc2 := 360) (off := 18) (tgt := 375) rfl (by decide +kernel) (by decide) (fun h169 => have f170 := f172.1 h169
  WP.iinc (pc2 := 378) (i := 9) (d := 1) rfl (by decide +kernel) rfl f170.1 <|
  WP.goto (off := -83) (tgt := 295) (by decide +kernel) (by decide) <|
  f170.2) (fun h169 => have f171 := f172.2 h169
  WP.aload_n (pc2 := 361) (i := 0) rfl (by decide +kernel) rfl <|
  WP.getR (pc2 := 364) rfl (by decide +kernel) zc_12 zSh_37 (by decide) rfl lf_X12_80 rfl (rs_37_34 hM) <|
  WP.sipush (pc2 := 367) (x := 768) rfl (by decide +kernel) ⟨by decide +kernel, by decide⟩ <|
  WP.iload (pc2 := 369) (i := 7) rfl (by decide +kernel) rfl <|
  WP.imul (pc2 := 370) rfl (by decide +kernel) f171.1 <|
  WP.iload (pc2 := 372) (i := 8) rfl (by decide +kernel) rfl <|
  WP.iadd (pc2 := 373) rfl (by decide +kernel) f171.2.1 <|
  WP.iconst (pc2 := 374) (x := 1) rfl (by decide +kernel) (by decide) <|
  WP.bastore (pc2 := 375) rfl (by decide +kernel) zSh_58 (Or.inr ⟨rfl, by decide, by decide⟩) rfl f171.2.2.1 <|
  WP.iinc (pc2 := 378) (i := 9) (d := 1) rfl (by decide +kernel) rfl f171.2.2.2.1 <|
  WP.goto (off := -83) (tgt := 295) (by decide +kernel) (by decide) <|
  f171.2.2.2.2))))))))
set_option maxRecDepth 100000 in
set_option maxHeartbeats 4000000 in
theorem GX12_neighbour {hi : zI} {hr : zR} {P : Int → Prop} (l1 : Int) (l2 : Int) 
    (F : (0 ≤ l1 ∧ 0 < hi 37 0 6) ∧ ((l2 ≠ 0 → ((l2 ≠ 2 → (WP mX12_neighbour 24 [some (.inr (some (37, 0))), some (.inl l1), some (.inl l2), none, none] [.inl 0, .inl (l1 / (hi 37 0 6))] hi hr (zQ0i hi hr P))) ∧ (l2 = 2 → (WP mX12_neighbour 24 [some (.inr (some (37, 0))), some (.inl l1), some (.inl l2), none, none] [.inl 1, .inl (l1 / (hi 37 0 6))] hi hr (zQ0i hi hr P))))) ∧ (l2 = 0 → (WP mX12_neighbour 24 [some (.inr (some (37, 0))), some (.inl l1), some (.inl l2), none, none] [.inl (-1), .inl (l1 / (hi 37 0 6))] hi hr (zQ0i hi hr P))))) :
    W0i mX12_neighbour [.inr (some (37, 0)), .inl l1, .inl l2] hi hr P :=
  WPm.of rfl (show WP mX12_neighbour 0 [some (.inr (some (37, 0))), some (.inl l1), some (.inl l2), none, none] [] hi hr (zQ0i hi hr P) from
  WP.iload_n (pc2 := 1) (i := 1) rfl (by decide +kernel) rfl <|
  WP.aload_n (pc2 := 2) (i := 0) rfl (by decide +kernel) rfl <|
  WP.getI (pc2 := 5) rfl (by decide +kernel) zc_12 zSh_37 (by decide) rfl lf_X12_152 rfl rfl <|
  WP.idiv (pc2 := 6) rfl (by decide +kernel) F.1.1 F.1.2 <|
  WP.iload_n (pc2 := 7) (i := 2) rfl (by decide +kernel) rfl <|
  WP.if_ne (pc2 := 10) (off := 7) (tgt := 14) rfl (by decide +kernel) (by decide) (fun h4 => have f5 := F.2.1 h4
  WP.iload_n (pc2 := 15) (i := 2) rfl (by decide +kernel) rfl <|
  WP.iconst (pc2 := 16) (x := 2) rfl (by decide +kernel) (by decide) <|
  WP.icmp_ne (pc2 := 19) (off := 7) (tgt := 23) rfl (by decide +kernel) (by decide) (fun h1 => have f2 := f5.1 h1
  WP.iconst (pc2 := 24) (x := 0) rfl (by decide +kernel) (by decide) <|
  f2) (fun h1 => have f3 := f5.2 h1
  WP.iconst (pc2 := 20) (x := 1) rfl (by decide +kernel) (by decide) <|
  WP.goto (off := 4) (tgt := 24) (by decide +kernel) (by decide) <|
  f3)) (fun h4 => have f6 := F.2.2 h4
  WP.iconst (pc2 := 11) (x := -1) rfl (by decide +kernel) (by decide) <|
  WP.goto (off := 13) (tgt := 24) (by decide +kernel) (by decide) <|
  f6))

set_option maxRecDepth 100000 in
set_option maxHeartbeats 4000000 in
theorem GX12_neighbour_24 {hi : zI} {hr : zR} {P : Int → Prop} (l1 : Int) (l2 : Int) (s0 : Int) (s1 : Int) 
    (F : (zInR (s1 + s0)) ∧ ((0 ≤ l1 ∧ 0 < hi 37 0 6) ∧ ((l2 ≠ 1 → ((l2 ≠ 3 → (WP mX12_neighbour 51 [some (.inr (some (37, 0))), some (.inl l1), some (.inl l2), some (.inl (s1 + s0)), none] [.inl 0, .inl (l1 % (hi 37 0 6))] hi hr (zQ0i hi hr P))) ∧ (l2 = 3 → (WP mX12_neighbour 51 [some (.inr (some (37, 0))), some (.inl l1), some (.inl l2), some (.inl (s1 + s0)), none] [.inl (-1), .inl (l1 % (hi 37 0 6))] hi hr (zQ0i hi hr P))))) ∧ (l2 = 1 → (WP mX12_neighbour 51 [some (.inr (some (37, 0))), some (.inl l1), some (.inl l2), some (.inl (s1 + s0)), none] [.inl 1, .inl (l1 % (hi 37 0 6))] hi hr (zQ0i hi hr P)))))) :
    WP mX12_neighbour 24 [some (.inr (some (37, 0))), some (.inl l1), some (.inl l2), none, none] [.inl s0, .inl s1] hi hr (zQ0i hi hr P) :=
  WP.iadd (pc2 := 25) rfl (by decide +kernel) F.1 <|
  WP.istore_n (pc2 := 26) (i := 3) rfl (by decide +kernel) (by decide) <|
  WP.iload_n (pc2 := 27) (i := 1) rfl (by decide +kernel) rfl <|
  WP.aload_n (pc2 := 28) (i := 0) rfl (by decide +kernel) rfl <|
  WP.getI (pc2 := 31) rfl (by decide +kernel) zc_12 zSh_37 (by decide) rfl lf_X12_152 rfl rfl <|
  WP.irem (pc2 := 32) rfl (by decide +kernel) F.2.1.1 F.2.1.2 <|
  WP.iload_n (pc2 := 33) (i := 2) rfl (by decide +kernel) rfl <|
  WP.iconst (pc2 := 34) (x := 1) rfl (by decide +kernel) (by decide) <|
  WP.icmp_ne (pc2 := 37) (off := 7) (tgt := 41) rfl (by decide +kernel) (by decide) (fun h10 => have f11 := F.2.2.1 h10
  WP.iload_n (pc2 := 42) (i := 2) rfl (by decide +kernel) rfl <|
  WP.iconst (pc2 := 43) (x := 3) rfl (by decide +kernel) (by decide) <|
  WP.icmp_ne (pc2 := 46) (off := 7) (tgt := 50) rfl (by decide +kernel) (by decide) (fun h7 => have f8 := f11.1 h7
  WP.iconst (pc2 := 51) (x := 0) rfl (by decide +kernel) (by decide) <|
  f8) (fun h7 => have f9 := f11.2 h7
  WP.iconst (pc2 := 47) (x := -1) rfl (by decide +kernel) (by decide) <|
  WP.goto (off := 4) (tgt := 51) (by decide +kernel) (by decide) <|
  f9)) (fun h10 => have f12 := F.2.2.2 h10
  WP.iconst (pc2 := 38) (x := 1) rfl (by decide +kernel) (by decide) <|
  WP.goto (off := 13) (tgt := 51) (by decide +kernel) (by decide) <|
  f12)

set_option maxRecDepth 100000 in
set_option maxHeartbeats 4000000 in
theorem GX12_neighbour_51 {hi : zI} {hr : zR} {P : Int → Prop} (hM : RSm hr) (l1 : Int) (l2 : Int) (a3 : Int) (s0 : Int) (s1 : Int) 
    (F : (zInR (s1 + s0)) ∧ ((a3 < 0 → (P (-1))) ∧ (0 ≤ a3 → ((hi 37 0 5 ≤ a3 → (P (-1))) ∧ (a3 < hi 37 0 5 → ((s1 + s0 < 0 → (P (-1))) ∧ (0 ≤ s1 + s0 → ((hi 37 0 6 ≤ s1 + s0 → (P (-1))) ∧ (s1 + s0 < hi 37 0 6 → ((zInR (a3 * (hi 37 0 6))) ∧ ((zInR ((a3 * (hi 37 0 6)) + (s1 + s0))) ∧ ((0 ≤ (a3 * (hi 37 0 6)) + (s1 + s0) ∧ (a3 * (hi 37 0 6)) + (s1 + s0) < 512) ∧ ((hi 39 0 ((a3 * (hi 37 0 6)) + (s1 + s0)) ≠ 0 → ((zInR (a3 * (hi 37 0 6))) ∧ ((zInR ((a3 * (hi 37 0 6)) + (s1 + s0))) ∧ (P ((a3 * (hi 37 0 6)) + (s1 + s0)))))) ∧ (hi 39 0 ((a3 * (hi 37 0 6)) + (s1 + s0)) = 0 → (P (-1)))))))))))))))) :
    WP mX12_neighbour 51 [some (.inr (some (37, 0))), some (.inl l1), some (.inl l2), some (.inl a3), none] [.inl s0, .inl s1] hi hr (zQ0i hi hr P) :=
  WP.iadd (pc2 := 52) rfl (by decide +kernel) F.1 <|
  WP.istore (pc2 := 54) (i := 4) rfl (by decide +kernel) (by decide) <|
  WP.iload_n (pc2 := 55) (i := 3) rfl (by decide +kernel) rfl <|
  WP.if_lt (pc2 := 58) (off := 42) (tgt := 97) rfl (by decide +kernel) (by decide) (fun h25 => have f26 := F.2.1 h25
  WP.iconst (pc2 := 98) (x := -1) rfl (by decide +kernel) (by decide) <|
  WP.iret (by decide +kernel) rfl (fun hx => ⟨_, rfl, hx, rfl, rfl, f26⟩)) (fun h25 => have f27 := F.2.2 h25
  WP.iload_n (pc2 := 59) (i := 3) rfl (by decide +kernel) rfl <|
  WP.aload_n (pc2 := 60) (i := 0) rfl (by decide +kernel) rfl <|
  WP.getI (pc2 := 63) rfl (by decide +kernel) zc_12 zSh_37 (by decide) rfl lf_X12_149 rfl rfl <|
  WP.icmp_ge (pc2 := 66) (off := 34) (tgt := 97) rfl (by decide +kernel) (by decide) (fun h22 => have f23 := f27.1 h22
  WP.iconst (pc2 := 98) (x := -1) rfl (by decide +kernel) (by decide) <|
  WP.iret (by decide +kernel) rfl (fun hx => ⟨_, rfl, hx, rfl, rfl, f23⟩)) (fun h22 => have f24 := f27.2 h22
  WP.iload (pc2 := 68) (i := 4) rfl (by decide +kernel) rfl <|
  WP.if_lt (pc2 := 71) (off := 29) (tgt := 97) rfl (by decide +kernel) (by decide) (fun h19 => have f20 := f24.1 h19
  WP.iconst (pc2 := 98) (x := -1) rfl (by decide +kernel) (by decide) <|
  WP.iret (by decide +kernel) rfl (fun hx => ⟨_, rfl, hx, rfl, rfl, f20⟩)) (fun h19 => have f21 := f24.2 h19
  WP.iload (pc2 := 73) (i := 4) rfl (by decide +kernel) rfl <|
  WP.aload_n (pc2 := 74) (i := 0) rfl (by decide +kernel) rfl <|
  WP.getI (pc2 := 77) rfl (by decide +kernel) zc_12 zSh_37 (by decide) rfl lf_X12_152 rfl rfl <|
  WP.icmp_ge (pc2 := 80) (off := 20) (tgt := 97) rfl (by decide +kernel) (by decide) (fun h16 => have f17 := f21.1 h16
  WP.iconst (pc2 := 98) (x := -1) rfl (by decide +kernel) (by decide) <|
  WP.iret (by decide +kernel) rfl (fun hx => ⟨_, rfl, hx, rfl, rfl, f17⟩)) (fun h16 => have f18 := f21.2 h16
  WP.aload_n (pc2 := 81) (i := 0) rfl (by decide +kernel) rfl <|
  WP.getR (pc2 := 84) rfl (by decide +kernel) zc_12 zSh_37 (by decide) rfl lf_X12_20 rfl (rs_37_7 hM) <|
  WP.iload_n (pc2 := 85) (i := 3) rfl (by decide +kernel) rfl <|
  WP.aload_n (pc2 := 86) (i := 0) rfl (by decide +kernel) rfl <|
  WP.getI (pc2 := 89) rfl (by decide +kernel) zc_12 zSh_37 (by decide) rfl lf_X12_152 rfl rfl <|
  WP.imul (pc2 := 90) rfl (by decide +kernel) f18.1 <|
  WP.iload (pc2 := 92) (i := 4) rfl (by decide +kernel) rfl <|
  WP.iadd (pc2 := 93) rfl (by decide +kernel) f18.2.1 <|
  WP.iaload (pc2 := 94) rfl (by decide +kernel) zSh_39 rfl f18.2.2.1 rfl <|
  WP.if_ne (pc2 := 97) (off := 5) (tgt := 99) rfl (by decide +kernel) (by decide) (fun h13 => have f14 := f18.2.2.2.1 h13
  WP.iload_n (pc2 := 100) (i := 3) rfl (by decide +kernel) rfl <|
  WP.aload_n (pc2 := 101) (i := 0) rfl (by decide +kernel) rfl <|
  WP.getI (pc2 := 104) rfl (by decide +kernel) zc_12 zSh_37 (by decide) rfl lf_X12_152 rfl rfl <|
  WP.imul (pc2 := 105) rfl (by decide +kernel) f14.1 <|
  WP.iload (pc2 := 107) (i := 4) rfl (by decide +kernel) rfl <|
  WP.iadd (pc2 := 108) rfl (by decide +kernel) f14.2.1 <|
  WP.iret (by decide +kernel) rfl (fun hx => ⟨_, rfl, hx, rfl, rfl, f14.2.2⟩)) (fun h13 => have f15 := f18.2.2.2.2 h13
  WP.iconst (pc2 := 98) (x := -1) rfl (by decide +kernel) (by decide) <|
  WP.iret (by decide +kernel) rfl (fun hx => ⟨_, rfl, hx, rfl, rfl, f15⟩))))))
