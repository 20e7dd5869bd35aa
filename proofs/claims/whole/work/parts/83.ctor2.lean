def sI12_0 (hi : zI) : zI := (zclr (zclr (zclr (zclr (zclr (zclr (zup (zclr hi 38 0) 37 0 4 (-1)) 39 0) 40 0) 41 0) 42 0) 43 0) 44 0)
def sR12_0 (hr : zR) : zR := (zupR (zclrR (zupR (zclrR (zupR (zclrR (zupR (zclrR (zupR (zclrR (zupR (zclrR (zupR (zclrR hr 38 0) 37 0 1 (some (38, 0))) 39 0) 37 0 7 (some (39, 0))) 40 0) 37 0 8 (some (40, 0))) 41 0) 37 0 11 (some (41, 0))) 42 0) 37 0 12 (some (42, 0))) 43 0) 37 0 15 (some (43, 0))) 44 0) 37 0 16 (some (44, 0)))
theorem C12_0 {hi : zI} {hr : zR} {Q : zQ} (k : VP mX12_init 72 [some (.inr (some (37, 0)))] [] 138 36 471026 (sI12_0 hi) (sR12_0 hr) Q) : VP mX12_init 0 [some (.inr (some (37, 0)))] [] 131 43 473218 hi hr Q :=
  VP.aload_n (i := 0) (by decide +kernel) rfl <| VP.pcx (b := 1) rfl <|
  VP.objInit (by decide +kernel) lm_X12_7 l_oi l_oc ⟨by decide, by decide⟩ (by decide) <| VP.pcx (b := 4) rfl <|
  VP.aload_n (i := 0) (by decide +kernel) rfl <| VP.pcx (b := 5) rfl <|
  VP.sipush (x := 400) (by decide +kernel) ⟨by decide +kernel, by decide⟩ <| VP.pcx (b := 8) rfl <|
  VP.nar (pc2 := 10) (n2 := 132) (ac2 := 42) (av2 := 472818) (len := 400) (atype := .byte) rfl rfl rfl rfl rfl (by decide +kernel) l_acB (Or.inr (Or.inl ⟨rfl, rfl⟩)) (zlt (by decide)) (by decide +kernel) zSh_38 (by decide) (by decide) (by decide) <|
  VP.putR (i := 1) (by decide +kernel) zc_12 zSh_37 (by decide) rfl lf_X12_13 (Or.inr ⟨rfl, rfl, rfl⟩) (Or.inr ⟨_, rfl⟩) <| VP.pcx (b := 13) rfl <|
  VP.aload_n (i := 0) (by decide +kernel) rfl <| VP.pcx (b := 14) rfl <|
  VP.iconst (x := (-1)) (by decide +kernel) (by decide) <| VP.pcx (b := 15) rfl <|
  VP.putI (i := 4) (by decide +kernel) zc_12 zSh_37 (by decide) rfl lf_X12_17 rfl (z_int _) <| VP.pcx (b := 18) rfl <|
  VP.aload_n (i := 0) (by decide +kernel) rfl <| VP.pcx (b := 19) rfl <|
  VP.sipush (x := 512) (by decide +kernel) ⟨by decide +kernel, by decide⟩ <| VP.pcx (b := 22) rfl <|
  VP.nar (pc2 := 24) (n2 := 133) (ac2 := 41) (av2 := 472306) (len := 512) (atype := .int) rfl rfl rfl rfl rfl (by decide +kernel) l_acI (Or.inl ⟨rfl, rfl⟩) (zlt (by decide)) (by decide +kernel) zSh_39 (by decide) (by decide) (by decide) <|
  VP.putR (i := 7) (by decide +kernel) zc_12 zSh_37 (by decide) rfl lf_X12_20 (Or.inr ⟨rfl, rfl, rfl⟩) (Or.inr ⟨_, rfl⟩) <| VP.pcx (b := 27) rfl <|
  VP.aload_n (i := 0) (by decide +kernel) rfl <| VP.pcx (b := 28) rfl <|
  VP.sipush (x := 256) (by decide +kernel) ⟨by decide +kernel, by decide⟩ <| VP.pcx (b := 31) rfl <|
  VP.nar (pc2 := 33) (n2 := 134) (ac2 := 40) (av2 := 472050) (len := 256) (atype := .int) rfl rfl rfl rfl rfl (by decide +kernel) l_acI (Or.inl ⟨rfl, rfl⟩) (zlt (by decide)) (by decide +kernel) zSh_40 (by decide) (by decide) (by decide) <|
  VP.putR (i := 8) (by decide +kernel) zc_12 zSh_37 (by decide) rfl lf_X12_24 (Or.inr ⟨rfl, rfl, rfl⟩) (Or.inr ⟨_, rfl⟩) <| VP.pcx (b := 36) rfl <|
  VP.aload_n (i := 0) (by decide +kernel) rfl <| VP.pcx (b := 37) rfl <|
  VP.sipush (x := 256) (by decide +kernel) ⟨by decide +kernel, by decide⟩ <| VP.pcx (b := 40) rfl <|
  VP.nar (pc2 := 42) (n2 := 135) (ac2 := 39) (av2 := 471794) (len := 256) (atype := .int) rfl rfl rfl rfl rfl (by decide +kernel) l_acI (Or.inl ⟨rfl, rfl⟩) (zlt (by decide)) (by decide +kernel) zSh_41 (by decide) (by decide) (by decide) <|
  VP.putR (i := 11) (by decide +kernel) zc_12 zSh_37 (by decide) rfl lf_X12_27 (Or.inr ⟨rfl, rfl, rfl⟩) (Or.inr ⟨_, rfl⟩) <| VP.pcx (b := 45) rfl <|
  VP.aload_n (i := 0) (by decide +kernel) rfl <| VP.pcx (b := 46) rfl <|
  VP.sipush (x := 256) (by decide +kernel) ⟨by decide +kernel, by decide⟩ <| VP.pcx (b := 49) rfl <|
  VP.nar (pc2 := 51) (n2 := 136) (ac2 := 38) (av2 := 471538) (len := 256) (atype := .int) rfl rfl rfl rfl rfl (by decide +kernel) l_acI (Or.inl ⟨rfl, rfl⟩) (zlt (by decide)) (by decide +kernel) zSh_42 (by decide) (by decide) (by decide) <|
  VP.putR (i := 12) (by decide +kernel) zc_12 zSh_37 (by decide) rfl lf_X12_30 (Or.inr ⟨rfl, rfl, rfl⟩) (Or.inr ⟨_, rfl⟩) <| VP.pcx (b := 54) rfl <|
  VP.aload_n (i := 0) (by decide +kernel) rfl <| VP.pcx (b := 55) rfl <|
  VP.sipush (x := 256) (by decide +kernel) ⟨by decide +kernel, by decide⟩ <| VP.pcx (b := 58) rfl <|
  VP.nar (pc2 := 60) (n2 := 137) (ac2 := 37) (av2 := 471282) (len := 256) (atype := .boolean) rfl rfl rfl rfl rfl (by decide +kernel) l_acZ (Or.inr (Or.inr ⟨rfl, rfl⟩)) (zlt (by decide)) (by decide +kernel) zSh_43 (by decide) (by decide) (by decide) <|
  VP.putR (i := 15) (by decide +kernel) zc_12 zSh_37 (by decide) rfl lf_X12_33 (Or.inr ⟨rfl, rfl, rfl⟩) (Or.inr ⟨_, rfl⟩) <| VP.pcx (b := 63) rfl <|
  VP.aload_n (i := 0) (by decide +kernel) rfl <| VP.pcx (b := 64) rfl <|
  VP.sipush (x := 256) (by decide +kernel) ⟨by decide +kernel, by decide⟩ <| VP.pcx (b := 67) rfl <|
  VP.nar (pc2 := 69) (n2 := 138) (ac2 := 36) (av2 := 471026) (len := 256) (atype := .int) rfl rfl rfl rfl rfl (by decide +kernel) l_acI (Or.inl ⟨rfl, rfl⟩) (zlt (by decide)) (by decide +kernel) zSh_44 (by decide) (by decide) (by decide) <|
  VP.putR (i := 16) (by decide +kernel) zc_12 zSh_37 (by decide) rfl lf_X12_37 (Or.inr ⟨rfl, rfl, rfl⟩) (Or.inr ⟨_, rfl⟩) <| VP.pcx (b := 72) rfl <| k
def sI12_1 (hi : zI) : zI := (zclr (zclr (zclr (zclr (zclr (zclr (zclr (zclr hi 45 0) 46 0) 47 0) 48 0) 49 0) 50 0) 51 0) 52 0)
def sR12_1 (hr : zR) : zR := (zupR (zclrR (zupR (zclrR (zupR (zclrR (zupR (zclrR (zupR (zclrR (zupR (zclrR (zupR (zclrR (zupR (zclrR hr 45 0) 37 0 18 (some (45, 0))) 46 0) 37 0 22 (some (46, 0))) 47 0) 37 0 23 (some (47, 0))) 48 0) 37 0 24 (some (48, 0))) 49 0) 37 0 25 (some (49, 0))) 50 0) 37 0 26 (some (50, 0))) 51 0) 37 0 27 (some (51, 0))) 52 0) 37 0 28 (some (52, 0)))
theorem C12_1 {hi : zI} {hr : zR} {Q : zQ} (k : VP mX12_init 137 [some (.inr (some (37, 0)))] [] 146 28 468850 (sI12_1 hi) (sR12_1 hr) Q) : VP mX12_init 72 [some (.inr (some (37, 0)))] [] 138 36 471026 hi hr Q :=
  VP.aload_n (i := 0) (by decide +kernel) rfl <| VP.pcx (b := 73) rfl <|
  VP.bipush (x := 64) (by decide +kernel) ⟨by decide +kernel, by decide⟩ <| VP.pcx (b := 75) rfl <|
  VP.nar (pc2 := 77) (n2 := 139) (ac2 := 35) (av2 := 470962) (len := 64) (atype := .int) rfl rfl rfl rfl rfl (by decide +kernel) l_acI (Or.inl ⟨rfl, rfl⟩) (zlt (by decide)) (by decide +kernel) zSh_45 (by decide) (by decide) (by decide) <|
  VP.putR (i := 18) (by decide +kernel) zc_12 zSh_37 (by decide) rfl lf_X12_40 (Or.inr ⟨rfl, rfl, rfl⟩) (Or.inr ⟨_, rfl⟩) <| VP.pcx (b := 80) rfl <|
  VP.aload_n (i := 0) (by decide +kernel) rfl <| VP.pcx (b := 81) rfl <|
  VP.bipush (x := 60) (by decide +kernel) ⟨by decide +kernel, by decide⟩ <| VP.pcx (b := 83) rfl <|
  VP.nar (pc2 := 85) (n2 := 140) (ac2 := 34) (av2 := 470902) (len := 60) (atype := .int) rfl rfl rfl rfl rfl (by decide +kernel) l_acI (Or.inl ⟨rfl, rfl⟩) (zlt (by decide)) (by decide +kernel) zSh_46 (by decide) (by decide) (by decide) <|
  VP.putR (i := 22) (by decide +kernel) zc_12 zSh_37 (by decide) rfl lf_X12_43 (Or.inr ⟨rfl, rfl, rfl⟩) (Or.inr ⟨_, rfl⟩) <| VP.pcx (b := 88) rfl <|
  VP.aload_n (i := 0) (by decide +kernel) rfl <| VP.pcx (b := 89) rfl <|
  VP.bipush (x := 60) (by decide +kernel) ⟨by decide +kernel, by decide⟩ <| VP.pcx (b := 91) rfl <|
  VP.nar (pc2 := 93) (n2 := 141) (ac2 := 33) (av2 := 470842) (len := 60) (atype := .int) rfl rfl rfl rfl rfl (by decide +kernel) l_acI (Or.inl ⟨rfl, rfl⟩) (zlt (by decide)) (by decide +kernel) zSh_47 (by decide) (by decide) (by decide) <|
  VP.putR (i := 23) (by decide +kernel) zc_12 zSh_37 (by decide) rfl lf_X12_46 (Or.inr ⟨rfl, rfl, rfl⟩) (Or.inr ⟨_, rfl⟩) <| VP.pcx (b := 96) rfl <|
  VP.aload_n (i := 0) (by decide +kernel) rfl <| VP.pcx (b := 97) rfl <|
  VP.bipush (x := 60) (by decide +kernel) ⟨by decide +kernel, by decide⟩ <| VP.pcx (b := 99) rfl <|
  VP.nar (pc2 := 101) (n2 := 142) (ac2 := 32) (av2 := 470782) (len := 60) (atype := .int) rfl rfl rfl rfl rfl (by decide +kernel) l_acI (Or.inl ⟨rfl, rfl⟩) (zlt (by decide)) (by decide +kernel) zSh_48 (by decide) (by decide) (by decide) <|
  VP.putR (i := 24) (by decide +kernel) zc_12 zSh_37 (by decide) rfl lf_X12_49 (Or.inr ⟨rfl, rfl, rfl⟩) (Or.inr ⟨_, rfl⟩) <| VP.pcx (b := 104) rfl <|
  VP.aload_n (i := 0) (by decide +kernel) rfl <| VP.pcx (b := 105) rfl <|
  VP.bipush (x := 60) (by decide +kernel) ⟨by decide +kernel, by decide⟩ <| VP.pcx (b := 107) rfl <|
  VP.nar (pc2 := 109) (n2 := 143) (ac2 := 31) (av2 := 470722) (len := 60) (atype := .int) rfl rfl rfl rfl rfl (by decide +kernel) l_acI (Or.inl ⟨rfl, rfl⟩) (zlt (by decide)) (by decide +kernel) zSh_49 (by decide) (by decide) (by decide) <|
  VP.putR (i := 25) (by decide +kernel) zc_12 zSh_37 (by decide) rfl lf_X12_52 (Or.inr ⟨rfl, rfl, rfl⟩) (Or.inr ⟨_, rfl⟩) <| VP.pcx (b := 112) rfl <|
  VP.aload_n (i := 0) (by decide +kernel) rfl <| VP.pcx (b := 113) rfl <|
  VP.bipush (x := 60) (by decide +kernel) ⟨by decide +kernel, by decide⟩ <| VP.pcx (b := 115) rfl <|
  VP.nar (pc2 := 117) (n2 := 144) (ac2 := 30) (av2 := 470662) (len := 60) (atype := .int) rfl rfl rfl rfl rfl (by decide +kernel) l_acI (Or.inl ⟨rfl, rfl⟩) (zlt (by decide)) (by decide +kernel) zSh_50 (by decide) (by decide) (by decide) <|
  VP.putR (i := 26) (by decide +kernel) zc_12 zSh_37 (by decide) rfl lf_X12_55 (Or.inr ⟨rfl, rfl, rfl⟩) (Or.inr ⟨_, rfl⟩) <| VP.pcx (b := 120) rfl <|
  VP.aload_n (i := 0) (by decide +kernel) rfl <| VP.pcx (b := 121) rfl <|
  VP.sipush (x := 1806) (by decide +kernel) ⟨by decide +kernel, by decide⟩ <| VP.pcx (b := 124) rfl <|
  VP.nar (pc2 := 126) (n2 := 145) (ac2 := 29) (av2 := 468856) (len := 1806) (atype := .int) rfl rfl rfl rfl rfl (by decide +kernel) l_acI (Or.inl ⟨rfl, rfl⟩) (zlt (by decide)) (by decide +kernel) zSh_51 (by decide) (by decide) (by decide) <|
  VP.putR (i := 27) (by decide +kernel) zc_12 zSh_37 (by decide) rfl lf_X12_58 (Or.inr ⟨rfl, rfl, rfl⟩) (Or.inr ⟨_, rfl⟩) <| VP.pcx (b := 129) rfl <|
  VP.aload_n (i := 0) (by decide +kernel) rfl <| VP.pcx (b := 130) rfl <|
  VP.bipush (x := 6) (by decide +kernel) ⟨by decide +kernel, by decide⟩ <| VP.pcx (b := 132) rfl <|
  VP.nar (pc2 := 134) (n2 := 146) (ac2 := 28) (av2 := 468850) (len := 6) (atype := .int) rfl rfl rfl rfl rfl (by decide +kernel) l_acI (Or.inl ⟨rfl, rfl⟩) (zlt (by decide)) (by decide +kernel) zSh_52 (by decide) (by decide) (by decide) <|
  VP.putR (i := 28) (by decide +kernel) zc_12 zSh_37 (by decide) rfl lf_X12_61 (Or.inr ⟨rfl, rfl, rfl⟩) (Or.inr ⟨_, rfl⟩) <| VP.pcx (b := 137) rfl <| k
def sI12_2 (hi : zI) : zI := (zclr (zclr (zclr (zclr (zclr (zclr (zclr (zclr hi 53 0) 54 0) 55 0) 56 0) 57 0) 58 0) 59 0) 60 0)
def sR12_2 (hr : zR) : zR := (zupR (zclrR (zupR (zclrR (zupR (zclrR (zupR (zclrR (zupR (zclrR (zupR (zclrR (zupR (zclrR (zupR (zclrR hr 53 0) 37 0 29 (some (53, 0))) 54 0) 37 0 30 (some (54, 0))) 55 0) 37 0 31 (some (55, 0))) 56 0) 37 0 32 (some (56, 0))) 57 0) 37 0 33 (some (57, 0))) 58 0) 37 0 34 (some (58, 0))) 59 0) 37 0 38 (some (59, 0))) 60 0) 37 0 39 (some (60, 0)))
theorem C12_2 {hi : zI} {hr : zR} {Q : zQ} (k : VP mX12_init 205 [some (.inr (some (37, 0)))] [] 154 20 2090 (sI12_2 hi) (sR12_2 hr) Q) : VP mX12_init 137 [some (.inr (some (37, 0)))] [] 146 28 468850 hi hr Q :=
  VP.aload_n (i := 0) (by decide +kernel) rfl <| VP.pcx (b := 138) rfl <|
  VP.bipush (x := 6) (by decide +kernel) ⟨by decide +kernel, by decide⟩ <| VP.pcx (b := 140) rfl <|
  VP.nar (pc2 := 142) (n2 := 147) (ac2 := 27) (av2 := 468844) (len := 6) (atype := .int) rfl rfl rfl rfl rfl (by decide +kernel) l_acI (Or.inl ⟨rfl, rfl⟩) (zlt (by decide)) (by decide +kernel) zSh_53 (by decide) (by decide) (by decide) <|
  VP.putR (i := 29) (by decide +kernel) zc_12 zSh_37 (by decide) rfl lf_X12_64 (Or.inr ⟨rfl, rfl, rfl⟩) (Or.inr ⟨_, rfl⟩) <| VP.pcx (b := 145) rfl <|
  VP.aload_n (i := 0) (by decide +kernel) rfl <| VP.pcx (b := 146) rfl <|
  VP.bipush (x := 6) (by decide +kernel) ⟨by decide +kernel, by decide⟩ <| VP.pcx (b := 148) rfl <|
  VP.nar (pc2 := 150) (n2 := 148) (ac2 := 26) (av2 := 468838) (len := 6) (atype := .int) rfl rfl rfl rfl rfl (by decide +kernel) l_acI (Or.inl ⟨rfl, rfl⟩) (zlt (by decide)) (by decide +kernel) zSh_54 (by decide) (by decide) (by decide) <|
  VP.putR (i := 30) (by decide +kernel) zc_12 zSh_37 (by decide) rfl lf_X12_67 (Or.inr ⟨rfl, rfl, rfl⟩) (Or.inr ⟨_, rfl⟩) <| VP.pcx (b := 153) rfl <|
  VP.aload_n (i := 0) (by decide +kernel) rfl <| VP.pcx (b := 154) rfl <|
  VP.sipush (x := 1806) (by decide +kernel) ⟨by decide +kernel, by decide⟩ <| VP.pcx (b := 157) rfl <|
  VP.nar (pc2 := 159) (n2 := 149) (ac2 := 25) (av2 := 467032) (len := 1806) (atype := .int) rfl rfl rfl rfl rfl (by decide +kernel) l_acI (Or.inl ⟨rfl, rfl⟩) (zlt (by decide)) (by decide +kernel) zSh_55 (by decide) (by decide) (by decide) <|
  VP.putR (i := 31) (by decide +kernel) zc_12 zSh_37 (by decide) rfl lf_X12_70 (Or.inr ⟨rfl, rfl, rfl⟩) (Or.inr ⟨_, rfl⟩) <| VP.pcx (b := 162) rfl <|
  VP.aload_n (i := 0) (by decide +kernel) rfl <| VP.pcx (b := 163) rfl <|
  VP.sipush (x := 1806) (by decide +kernel) ⟨by decide +kernel, by decide⟩ <| VP.pcx (b := 166) rfl <|
  VP.nar (pc2 := 168) (n2 := 150) (ac2 := 24) (av2 := 465226) (len := 1806) (atype := .int) rfl rfl rfl rfl rfl (by decide +kernel) l_acI (Or.inl ⟨rfl, rfl⟩) (zlt (by decide)) (by decide +kernel) zSh_56 (by decide) (by decide) (by decide) <|
  VP.putR (i := 32) (by decide +kernel) zc_12 zSh_37 (by decide) rfl lf_X12_73 (Or.inr ⟨rfl, rfl, rfl⟩) (Or.inr ⟨_, rfl⟩) <| VP.pcx (b := 171) rfl <|
  VP.aload_n (i := 0) (by decide +kernel) rfl <| VP.pcx (b := 172) rfl <|
  VP.ldc lq_X12_76 (by decide +kernel) (by decide) <| VP.pcx (b := 174) rfl <|
  VP.nar (pc2 := 176) (n2 := 151) (ac2 := 23) (av2 := 234058) (len := 231168) (atype := .boolean) rfl rfl rfl rfl rfl (by decide +kernel) l_acZ (Or.inr (Or.inr ⟨rfl, rfl⟩)) (zlt (by decide)) (by decide +kernel) zSh_57 (by decide) (by decide) (by decide) <|
  VP.putR (i := 33) (by decide +kernel) zc_12 zSh_37 (by decide) rfl lf_X12_77 (Or.inr ⟨rfl, rfl, rfl⟩) (Or.inr ⟨_, rfl⟩) <| VP.pcx (b := 179) rfl <|
  VP.aload_n (i := 0) (by decide +kernel) rfl <| VP.pcx (b := 180) rfl <|
  VP.ldc lq_X12_76 (by decide +kernel) (by decide) <| VP.pcx (b := 182) rfl <|
  VP.nar (pc2 := 184) (n2 := 152) (ac2 := 22) (av2 := 2890) (len := 231168) (atype := .boolean) rfl rfl rfl rfl rfl (by decide +kernel) l_acZ (Or.inr (Or.inr ⟨rfl, rfl⟩)) (zlt (by decide)) (by decide +kernel) zSh_58 (by decide) (by decide) (by decide) <|
  VP.putR (i := 34) (by decide +kernel) zc_12 zSh_37 (by decide) rfl lf_X12_80 (Or.inr ⟨rfl, rfl, rfl⟩) (Or.inr ⟨_, rfl⟩) <| VP.pcx (b := 187) rfl <|
  VP.aload_n (i := 0) (by decide +kernel) rfl <| VP.pcx (b := 188) rfl <|
  VP.sipush (x := 400) (by decide +kernel) ⟨by decide +kernel, by decide⟩ <| VP.pcx (b := 191) rfl <|
  VP.nar (pc2 := 193) (n2 := 153) (ac2 := 21) (av2 := 2490) (len := 400) (atype := .int) rfl rfl rfl rfl rfl (by decide +kernel) l_acI (Or.inl ⟨rfl, rfl⟩) (zlt (by decide)) (by decide +kernel) zSh_59 (by decide) (by decide) (by decide) <|
  VP.putR (i := 38) (by decide +kernel) zc_12 zSh_37 (by decide) rfl lf_X12_83 (Or.inr ⟨rfl, rfl, rfl⟩) (Or.inr ⟨_, rfl⟩) <| VP.pcx (b := 196) rfl <|
  VP.aload_n (i := 0) (by decide +kernel) rfl <| VP.pcx (b := 197) rfl <|
  VP.sipush (x := 400) (by decide +kernel) ⟨by decide +kernel, by decide⟩ <| VP.pcx (b := 200) rfl <|
  VP.nar (pc2 := 202) (n2 := 154) (ac2 := 20) (av2 := 2090) (len := 400) (atype := .int) rfl rfl rfl rfl rfl (by decide +kernel) l_acI (Or.inl ⟨rfl, rfl⟩) (zlt (by decide)) (by decide +kernel) zSh_60 (by decide) (by decide) (by decide) <|
  VP.putR (i := 39) (by decide +kernel) zc_12 zSh_37 (by decide) rfl lf_X12_86 (Or.inr ⟨rfl, rfl, rfl⟩) (Or.inr ⟨_, rfl⟩) <| VP.pcx (b := 205) rfl <| k
def sI12_3 (hi : zI) : zI := (zclr (zclr (zclr (zclr (zclr (zclr (zclr (zclr hi 61 0) 62 0) 63 0) 64 0) 65 0) 66 0) 67 0) 68 0)
def sR12_3 (hr : zR) : zR := (zupR (zclrR (zupR (zclrR (zupR (zclrR (zupR (zclrR (zupR (zclrR (zupR (zclrR (zupR (zclrR (zupR (zclrR hr 61 0) 37 0 40 (some (61, 0))) 62 0) 37 0 41 (some (62, 0))) 63 0) 37 0 42 (some (63, 0))) 64 0) 37 0 43 (some (64, 0))) 65 0) 37 0 44 (some (65, 0))) 66 0) 37 0 45 (some (66, 0))) 67 0) 37 0 46 (some (67, 0))) 68 0) 37 0 47 (some (68, 0)))
theorem C12_3 {hi : zI} {hr : zR} {Q : zQ} (k : VP mX12_init 274 [some (.inr (some (37, 0)))] [] 162 12 72 (sI12_3 hi) (sR12_3 hr) Q) : VP mX12_init 205 [some (.inr (some (37, 0)))] [] 154 20 2090 hi hr Q :=
  VP.aload_n (i := 0) (by decide +kernel) rfl <| VP.pcx (b := 206) rfl <|
  VP.sipush (x := 400) (by decide +kernel) ⟨by decide +kernel, by decide⟩ <| VP.pcx (b := 209) rfl <|
  VP.nar (pc2 := 211) (n2 := 155) (ac2 := 19) (av2 := 1690) (len := 400) (atype := .int) rfl rfl rfl rfl rfl (by decide +kernel) l_acI (Or.inl ⟨rfl, rfl⟩) (zlt (by decide)) (by decide +kernel) zSh_61 (by decide) (by decide) (by decide) <|
  VP.putR (i := 40) (by decide +kernel) zc_12 zSh_37 (by decide) rfl lf_X12_89 (Or.inr ⟨rfl, rfl, rfl⟩) (Or.inr ⟨_, rfl⟩) <| VP.pcx (b := 214) rfl <|
  VP.aload_n (i := 0) (by decide +kernel) rfl <| VP.pcx (b := 215) rfl <|
  VP.sipush (x := 400) (by decide +kernel) ⟨by decide +kernel, by decide⟩ <| VP.pcx (b := 218) rfl <|
  VP.nar (pc2 := 220) (n2 := 156) (ac2 := 18) (av2 := 1290) (len := 400) (atype := .int) rfl rfl rfl rfl rfl (by decide +kernel) l_acI (Or.inl ⟨rfl, rfl⟩) (zlt (by decide)) (by decide +kernel) zSh_62 (by decide) (by decide) (by decide) <|
  VP.putR (i := 41) (by decide +kernel) zc_12 zSh_37 (by decide) rfl lf_X12_92 (Or.inr ⟨rfl, rfl, rfl⟩) (Or.inr ⟨_, rfl⟩) <| VP.pcx (b := 223) rfl <|
  VP.aload_n (i := 0) (by decide +kernel) rfl <| VP.pcx (b := 224) rfl <|
  VP.sipush (x := 400) (by decide +kernel) ⟨by decide +kernel, by decide⟩ <| VP.pcx (b := 227) rfl <|
  VP.nar (pc2 := 229) (n2 := 157) (ac2 := 17) (av2 := 890) (len := 400) (atype := .int) rfl rfl rfl rfl rfl (by decide +kernel) l_acI (Or.inl ⟨rfl, rfl⟩) (zlt (by decide)) (by decide +kernel) zSh_63 (by decide) (by decide) (by decide) <|
  VP.putR (i := 42) (by decide +kernel) zc_12 zSh_37 (by decide) rfl lf_X12_95 (Or.inr ⟨rfl, rfl, rfl⟩) (Or.inr ⟨_, rfl⟩) <| VP.pcx (b := 232) rfl <|
  VP.aload_n (i := 0) (by decide +kernel) rfl <| VP.pcx (b := 233) rfl <|
  VP.sipush (x := 400) (by decide +kernel) ⟨by decide +kernel, by decide⟩ <| VP.pcx (b := 236) rfl <|
  VP.nar (pc2 := 238) (n2 := 158) (ac2 := 16) (av2 := 490) (len := 400) (atype := .int) rfl rfl rfl rfl rfl (by decide +kernel) l_acI (Or.inl ⟨rfl, rfl⟩) (zlt (by decide)) (by decide +kernel) zSh_64 (by decide) (by decide) (by decide) <|
  VP.putR (i := 43) (by decide +kernel) zc_12 zSh_37 (by decide) rfl lf_X12_98 (Or.inr ⟨rfl, rfl, rfl⟩) (Or.inr ⟨_, rfl⟩) <| VP.pcx (b := 241) rfl <|
  VP.aload_n (i := 0) (by decide +kernel) rfl <| VP.pcx (b := 242) rfl <|
  VP.sipush (x := 400) (by decide +kernel) ⟨by decide +kernel, by decide⟩ <| VP.pcx (b := 245) rfl <|
  VP.nar (pc2 := 247) (n2 := 159) (ac2 := 15) (av2 := 90) (len := 400) (atype := .int) rfl rfl rfl rfl rfl (by decide +kernel) l_acI (Or.inl ⟨rfl, rfl⟩) (zlt (by decide)) (by decide +kernel) zSh_65 (by decide) (by decide) (by decide) <|
  VP.putR (i := 44) (by decide +kernel) zc_12 zSh_37 (by decide) rfl lf_X12_101 (Or.inr ⟨rfl, rfl, rfl⟩) (Or.inr ⟨_, rfl⟩) <| VP.pcx (b := 250) rfl <|
  VP.aload_n (i := 0) (by decide +kernel) rfl <| VP.pcx (b := 251) rfl <|
  VP.bipush (x := 6) (by decide +kernel) ⟨by decide +kernel, by decide⟩ <| VP.pcx (b := 253) rfl <|
  VP.nar (pc2 := 255) (n2 := 160) (ac2 := 14) (av2 := 84) (len := 6) (atype := .boolean) rfl rfl rfl rfl rfl (by decide +kernel) l_acZ (Or.inr (Or.inr ⟨rfl, rfl⟩)) (zlt (by decide)) (by decide +kernel) zSh_66 (by decide) (by decide) (by decide) <|
  VP.putR (i := 45) (by decide +kernel) zc_12 zSh_37 (by decide) rfl lf_X12_104 (Or.inr ⟨rfl, rfl, rfl⟩) (Or.inr ⟨_, rfl⟩) <| VP.pcx (b := 258) rfl <|
  VP.aload_n (i := 0) (by decide +kernel) rfl <| VP.pcx (b := 259) rfl <|
  VP.bipush (x := 6) (by decide +kernel) ⟨by decide +kernel, by decide⟩ <| VP.pcx (b := 261) rfl <|
  VP.nar (pc2 := 263) (n2 := 161) (ac2 := 13) (av2 := 78) (len := 6) (atype := .int) rfl rfl rfl rfl rfl (by decide +kernel) l_acI (Or.inl ⟨rfl, rfl⟩) (zlt (by decide)) (by decide +kernel) zSh_67 (by decide) (by decide) (by decide) <|
  VP.putR (i := 46) (by decide +kernel) zc_12 zSh_37 (by decide) rfl lf_X12_107 (Or.inr ⟨rfl, rfl, rfl⟩) (Or.inr ⟨_, rfl⟩) <| VP.pcx (b := 266) rfl <|
  VP.aload_n (i := 0) (by decide +kernel) rfl <| VP.pcx (b := 267) rfl <|
  VP.bipush (x := 6) (by decide +kernel) ⟨by decide +kernel, by decide⟩ <| VP.pcx (b := 269) rfl <|
  VP.nar (pc2 := 271) (n2 := 162) (ac2 := 12) (av2 := 72) (len := 6) (atype := .int) rfl rfl rfl rfl rfl (by decide +kernel) l_acI (Or.inl ⟨rfl, rfl⟩) (zlt (by decide)) (by decide +kernel) zSh_68 (by decide) (by decide) (by decide) <|
  VP.putR (i := 47) (by decide +kernel) zc_12 zSh_37 (by decide) rfl lf_X12_110 (Or.inr ⟨rfl, rfl, rfl⟩) (Or.inr ⟨_, rfl⟩) <| VP.pcx (b := 274) rfl <| k
def sI12_4 (hi : zI) : zI := (zclr (zclr (zclr (zclr (zclr (zclr (zclr (zclr hi 69 0) 70 0) 71 0) 72 0) 73 0) 74 0) 75 0) 76 0)
def sR12_4 (hr : zR) : zR := (zupR (zclrR (zupR (zclrR (zupR (zclrR (zupR (zclrR (zupR (zclrR (zupR (zclrR (zupR (zclrR (zupR (zclrR hr 69 0) 37 0 48 (some (69, 0))) 70 0) 37 0 49 (some (70, 0))) 71 0) 37 0 50 (some (71, 0))) 72 0) 37 0 51 (some (72, 0))) 73 0) 37 0 52 (some (73, 0))) 74 0) 37 0 54 (some (74, 0))) 75 0) 37 0 55 (some (75, 0))) 76 0) 37 0 56 (some (76, 0)))
theorem C12_4 {hi : zI} {hr : zR} {Q : zQ} (k : VP mX12_init 338 [some (.inr (some (37, 0)))] [] 170 4 24 (sI12_4 hi) (sR12_4 hr) Q) : VP mX12_init 274 [some (.inr (some (37, 0)))] [] 162 12 72 hi hr Q :=
  VP.aload_n (i := 0) (by decide +kernel) rfl <| VP.pcx (b := 275) rfl <|
  VP.bipush (x := 6) (by decide +kernel) ⟨by decide +kernel, by decide⟩ <| VP.pcx (b := 277) rfl <|
  VP.nar (pc2 := 279) (n2 := 163) (ac2 := 11) (av2 := 66) (len := 6) (atype := .int) rfl rfl rfl rfl rfl (by decide +kernel) l_acI (Or.inl ⟨rfl, rfl⟩) (zlt (by decide)) (by decide +kernel) zSh_69 (by decide) (by decide) (by decide) <|
  VP.putR (i := 48) (by decide +kernel) zc_12 zSh_37 (by decide) rfl lf_X12_113 (Or.inr ⟨rfl, rfl, rfl⟩) (Or.inr ⟨_, rfl⟩) <| VP.pcx (b := 282) rfl <|
  VP.aload_n (i := 0) (by decide +kernel) rfl <| VP.pcx (b := 283) rfl <|
  VP.bipush (x := 6) (by decide +kernel) ⟨by decide +kernel, by decide⟩ <| VP.pcx (b := 285) rfl <|
  VP.nar (pc2 := 287) (n2 := 164) (ac2 := 10) (av2 := 60) (len := 6) (atype := .int) rfl rfl rfl rfl rfl (by decide +kernel) l_acI (Or.inl ⟨rfl, rfl⟩) (zlt (by decide)) (by decide +kernel) zSh_70 (by decide) (by decide) (by decide) <|
  VP.putR (i := 49) (by decide +kernel) zc_12 zSh_37 (by decide) rfl lf_X12_116 (Or.inr ⟨rfl, rfl, rfl⟩) (Or.inr ⟨_, rfl⟩) <| VP.pcx (b := 290) rfl <|
  VP.aload_n (i := 0) (by decide +kernel) rfl <| VP.pcx (b := 291) rfl <|
  VP.bipush (x := 6) (by decide +kernel) ⟨by decide +kernel, by decide⟩ <| VP.pcx (b := 293) rfl <|
  VP.nar (pc2 := 295) (n2 := 165) (ac2 := 9) (av2 := 54) (len := 6) (atype := .boolean) rfl rfl rfl rfl rfl (by decide +kernel) l_acZ (Or.inr (Or.inr ⟨rfl, rfl⟩)) (zlt (by decide)) (by decide +kernel) zSh_71 (by decide) (by decide) (by decide) <|
  VP.putR (i := 50) (by decide +kernel) zc_12 zSh_37 (by decide) rfl lf_X12_119 (Or.inr ⟨rfl, rfl, rfl⟩) (Or.inr ⟨_, rfl⟩) <| VP.pcx (b := 298) rfl <|
  VP.aload_n (i := 0) (by decide +kernel) rfl <| VP.pcx (b := 299) rfl <|
  VP.bipush (x := 6) (by decide +kernel) ⟨by decide +kernel, by decide⟩ <| VP.pcx (b := 301) rfl <|
  VP.nar (pc2 := 303) (n2 := 166) (ac2 := 8) (av2 := 48) (len := 6) (atype := .int) rfl rfl rfl rfl rfl (by decide +kernel) l_acI (Or.inl ⟨rfl, rfl⟩) (zlt (by decide)) (by decide +kernel) zSh_72 (by decide) (by decide) (by decide) <|
  VP.putR (i := 51) (by decide +kernel) zc_12 zSh_37 (by decide) rfl lf_X12_122 (Or.inr ⟨rfl, rfl, rfl⟩) (Or.inr ⟨_, rfl⟩) <| VP.pcx (b := 306) rfl <|
  VP.aload_n (i := 0) (by decide +kernel) rfl <| VP.pcx (b := 307) rfl <|
  VP.bipush (x := 6) (by decide +kernel) ⟨by decide +kernel, by decide⟩ <| VP.pcx (b := 309) rfl <|
  VP.nar (pc2 := 311) (n2 := 167) (ac2 := 7) (av2 := 42) (len := 6) (atype := .int) rfl rfl rfl rfl rfl (by decide +kernel) l_acI (Or.inl ⟨rfl, rfl⟩) (zlt (by decide)) (by decide +kernel) zSh_73 (by decide) (by decide) (by decide) <|
  VP.putR (i := 52) (by decide +kernel) zc_12 zSh_37 (by decide) rfl lf_X12_125 (Or.inr ⟨rfl, rfl, rfl⟩) (Or.inr ⟨_, rfl⟩) <| VP.pcx (b := 314) rfl <|
  VP.aload_n (i := 0) (by decide +kernel) rfl <| VP.pcx (b := 315) rfl <|
  VP.bipush (x := 6) (by decide +kernel) ⟨by decide +kernel, by decide⟩ <| VP.pcx (b := 317) rfl <|
  VP.nar (pc2 := 319) (n2 := 168) (ac2 := 6) (av2 := 36) (len := 6) (atype := .boolean) rfl rfl rfl rfl rfl (by decide +kernel) l_acZ (Or.inr (Or.inr ⟨rfl, rfl⟩)) (zlt (by decide)) (by decide +kernel) zSh_74 (by decide) (by decide) (by decide) <|
  VP.putR (i := 54) (by decide +kernel) zc_12 zSh_37 (by decide) rfl lf_X12_128 (Or.inr ⟨rfl, rfl, rfl⟩) (Or.inr ⟨_, rfl⟩) <| VP.pcx (b := 322) rfl <|
  VP.aload_n (i := 0) (by decide +kernel) rfl <| VP.pcx (b := 323) rfl <|
  VP.bipush (x := 6) (by decide +kernel) ⟨by decide +kernel, by decide⟩ <| VP.pcx (b := 325) rfl <|
  VP.nar (pc2 := 327) (n2 := 169) (ac2 := 5) (av2 := 30) (len := 6) (atype := .int) rfl rfl rfl rfl rfl (by decide +kernel) l_acI (Or.inl ⟨rfl, rfl⟩) (zlt (by decide)) (by decide +kernel) zSh_75 (by decide) (by decide) (by decide) <|
  VP.putR (i := 55) (by decide +kernel) zc_12 zSh_37 (by decide) rfl lf_X12_131 (Or.inr ⟨rfl, rfl, rfl⟩) (Or.inr ⟨_, rfl⟩) <| VP.pcx (b := 330) rfl <|
  VP.aload_n (i := 0) (by decide +kernel) rfl <| VP.pcx (b := 331) rfl <|
  VP.bipush (x := 6) (by decide +kernel) ⟨by decide +kernel, by decide⟩ <| VP.pcx (b := 333) rfl <|
  VP.nar (pc2 := 335) (n2 := 170) (ac2 := 4) (av2 := 24) (len := 6) (atype := .int) rfl rfl rfl rfl rfl (by decide +kernel) l_acI (Or.inl ⟨rfl, rfl⟩) (zlt (by decide)) (by decide +kernel) zSh_76 (by decide) (by decide) (by decide) <|
  VP.putR (i := 56) (by decide +kernel) zc_12 zSh_37 (by decide) rfl lf_X12_134 (Or.inr ⟨rfl, rfl, rfl⟩) (Or.inr ⟨_, rfl⟩) <| VP.pcx (b := 338) rfl <| k
def sI12_5 (hi : zI) : zI := (zclr (zclr (zclr (zclr hi 77 0) 78 0) 79 0) 80 0)
def sR12_5 (hr : zR) : zR := (zupR (zclrR (zupR (zclrR (zupR (zclrR (zupR (zclrR hr 77 0) 37 0 57 (some (77, 0))) 78 0) 37 0 58 (some (78, 0))) 79 0) 37 0 59 (some (79, 0))) 80 0) 37 0 60 (some (80, 0)))
theorem C12_5 {hi : zI} {hr : zR} {Q : zQ} (k : VP mX12_init 370 [some (.inr (some (37, 0)))] [] 174 0 0 (sI12_5 hi) (sR12_5 hr) Q) : VP mX12_init 338 [some (.inr (some (37, 0)))] [] 170 4 24 hi hr Q :=
  VP.aload_n (i := 0) (by decide +kernel) rfl <| VP.pcx (b := 339) rfl <|
  VP.bipush (x := 6) (by decide +kernel) ⟨by decide +kernel, by decide⟩ <| VP.pcx (b := 341) rfl <|
  VP.nar (pc2 := 343) (n2 := 171) (ac2 := 3) (av2 := 18) (len := 6) (atype := .int) rfl rfl rfl rfl rfl (by decide +kernel) l_acI (Or.inl ⟨rfl, rfl⟩) (zlt (by decide)) (by decide +kernel) zSh_77 (by decide) (by decide) (by decide) <|
  VP.putR (i := 57) (by decide +kernel) zc_12 zSh_37 (by decide) rfl lf_X12_137 (Or.inr ⟨rfl, rfl, rfl⟩) (Or.inr ⟨_, rfl⟩) <| VP.pcx (b := 346) rfl <|
  VP.aload_n (i := 0) (by decide +kernel) rfl <| VP.pcx (b := 347) rfl <|
  VP.bipush (x := 6) (by decide +kernel) ⟨by decide +kernel, by decide⟩ <| VP.pcx (b := 349) rfl <|
  VP.nar (pc2 := 351) (n2 := 172) (ac2 := 2) (av2 := 12) (len := 6) (atype := .int) rfl rfl rfl rfl rfl (by decide +kernel) l_acI (Or.inl ⟨rfl, rfl⟩) (zlt (by decide)) (by decide +kernel) zSh_78 (by decide) (by decide) (by decide) <|
  VP.putR (i := 58) (by decide +kernel) zc_12 zSh_37 (by decide) rfl lf_X12_140 (Or.inr ⟨rfl, rfl, rfl⟩) (Or.inr ⟨_, rfl⟩) <| VP.pcx (b := 354) rfl <|
  VP.aload_n (i := 0) (by decide +kernel) rfl <| VP.pcx (b := 355) rfl <|
  VP.bipush (x := 6) (by decide +kernel) ⟨by decide +kernel, by decide⟩ <| VP.pcx (b := 357) rfl <|
  VP.nar (pc2 := 359) (n2 := 173) (ac2 := 1) (av2 := 6) (len := 6) (atype := .int) rfl rfl rfl rfl rfl (by decide +kernel) l_acI (Or.inl ⟨rfl, rfl⟩) (zlt (by decide)) (by decide +kernel) zSh_79 (by decide) (by decide) (by decide) <|
  VP.putR (i := 59) (by decide +kernel) zc_12 zSh_37 (by decide) rfl lf_X12_143 (Or.inr ⟨rfl, rfl, rfl⟩) (Or.inr ⟨_, rfl⟩) <| VP.pcx (b := 362) rfl <|
  VP.aload_n (i := 0) (by decide +kernel) rfl <| VP.pcx (b := 363) rfl <|
  VP.bipush (x := 6) (by decide +kernel) ⟨by decide +kernel, by decide⟩ <| VP.pcx (b := 365) rfl <|
  VP.nar (pc2 := 367) (n2 := 174) (ac2 := 0) (av2 := 0) (len := 6) (atype := .int) rfl rfl rfl rfl rfl (by decide +kernel) l_acI (Or.inl ⟨rfl, rfl⟩) (zlt (by decide)) (by decide +kernel) zSh_80 (by decide) (by decide) (by decide) <|
  VP.putR (i := 60) (by decide +kernel) zc_12 zSh_37 (by decide) rfl lf_X12_146 (Or.inr ⟨rfl, rfl, rfl⟩) (Or.inr ⟨_, rfl⟩) <| VP.pcx (b := 370) rfl <| k
def sI12 (hi : zI) : zI := sI12_5 (sI12_4 (sI12_3 (sI12_2 (sI12_1 (sI12_0 (hi))))))
def sR12 (hr : zR) : zR := sR12_5 (sR12_4 (sR12_3 (sR12_2 (sR12_1 (sR12_0 (hr))))))
theorem CX12 {hi : zI} {hr : zR} (Q : zQ) (k : VP mX12_init 370 [some (.inr (some (37, 0)))] [] 174 0 0 (sI12 hi) (sR12 hr) Q) : VPm mX12_init [.inr (some (37, 0))] 131 hi hr Q :=
  VPm.to (ls := [some (.inr (some (37, 0)))]) rfl rfl rfl <|
  C12_0 <| C12_1 <| C12_2 <| C12_3 <| C12_4 <| C12_5 <| k
set_option maxRecDepth 100000 in
set_option maxHeartbeats 4000000 in
theorem GX11_init_122 {hi : zI} {hr : zR} {P : zI → Prop} 
    (F : ∃ j1 : Int, hr 1 0 6 = some (30, j1) ∧ (0 ≤ j1 ∧ j1 < 2) ∧ (W1v mX10_addCell [.inr (some (30, j1)), .inl 3] hi hr (fun (hi3 : zI) => W1v mX10_addCell [.inr (some (30, j1)), .inl 2] hi3 hr (fun (hi4 : zI) => W1v mX10_joinCells [.inr (some (30, j1))] (zup hi4 30 j1 6 2) hr (fun (hi5 : zI) => W1v mX11_beginAnew [.inr (some (1, 0))] hi5 hr (fun (hi6 : zI) => P hi6)))))) :
    WP mX11_init 122 [some (.inr (some (1, 0))), some (.inl 6)] [] hi hr (zQ1v hr P) :=
  WP.aload_n (pc2 := 123) (i := 0) rfl (by decide +kernel) rfl <|
  Exists.elim F (fun j1 f11 => have e2 := f11.1; have e2r := f11.2.1
  WP.getR (pc2 := 126) rfl (by decide +kernel) zc_11 zSh_1 (by decide) rfl lf_X11_53 rfl e2 <|
  WP.iconst (pc2 := 127) (x := 3) rfl (by decide +kernel) (by decide) <|
  WP.callV (y := mX11_init) (index := 65) (pc2 := 130) (y' := mX10_addCell) (vs := [.inl 3]) rfl (by decide +kernel) okX10_addCell ⟨by decide, by decide⟩ ⟨lm_X11_65, ivX10_addCell⟩ zSh_30 zc_10 (Nat.le_of_ble_eq_true rfl) ⟨rfl, rfl⟩ rfl (WP.c1v f11.2.2 (fun hi3 f10 =>
  WP.aload_n (pc2 := 131) (i := 0) rfl (by decide +kernel) rfl <|
  WP.getR (pc2 := 134) rfl (by decide +kernel) zc_11 zSh_1 (by decide) rfl lf_X11_53 rfl e2 <|
  WP.iconst (pc2 := 135) (x := 2) rfl (by decide +kernel) (by decide) <|
  WP.callV (y := mX11_init) (index := 65) (pc2 := 138) (y' := mX10_addCell) (vs := [.inl 2]) rfl (by decide +kernel) okX10_addCell ⟨by decide, by decide⟩ ⟨lm_X11_65, ivX10_addCell⟩ zSh_30 zc_10 (Nat.le_of_ble_eq_true rfl) ⟨rfl, rfl⟩ rfl (WP.c1v f10 (fun hi4 f9 =>
  WP.aload_n (pc2 := 139) (i := 0) rfl (by decide +kernel) rfl <|
  WP.getR (pc2 := 142) rfl (by decide +kernel) zc_11 zSh_1 (by decide) rfl lf_X11_53 rfl e2 <|
  WP.iconst (pc2 := 143) (x := 2) rfl (by decide +kernel) (by decide) <|
  WP.putI (pc2 := 146) rfl (by decide +kernel) zc_10 zSh_30 (by decide) rfl lf_X11_69 rfl (z_int _) rfl <|
  WP.aload_n (pc2 := 147) (i := 0) rfl (by decide +kernel) rfl <|
  WP.getR (pc2 := 150) rfl (by decide +kernel) zc_11 zSh_1 (by decide) rfl lf_X11_53 rfl e2 <|
  WP.callV (y := mX11_init) (index := 72) (pc2 := 153) (y' := mX10_joinCells) (vs := []) rfl (by decide +kernel) okX10_joinCells ⟨by decide, by decide⟩ ⟨lm_X11_72, ivX10_joinCells⟩ zSh_30 zc_10 (Nat.le_of_ble_eq_true rfl) ⟨rfl, rfl⟩ rfl (WP.c1v f9 (fun hi5 f8 =>
  WP.aload_n (pc2 := 154) (i := 0) rfl (by decide +kernel) rfl <|
  WP.callV (y := mX11_init) (index := 75) (pc2 := 157) (y' := mX11_beginAnew) (vs := []) rfl (by decide +kernel) okX11_beginAnew ⟨by decide, by decide⟩ ⟨lm_X11_75, ivX11_beginAnew⟩ zSh_1 zc_11 (Nat.le_of_ble_eq_true rfl) ⟨rfl, rfl⟩ rfl (WP.c1v f8 (fun hi6 f7 =>
  WP.vret (by decide +kernel) rfl ⟨rfl, rfl, f7⟩)))))))))

set_option maxRecDepth 100000 in
set_option maxHeartbeats 4000000 in
theorem GX12_init_370 {hi : zI} {hr : zR} {P : zI → Prop} (hM : RSm hr) 
    (F : W1v mX12_begins [.inr (some (37, 0))] (zup (zup (zup (zup (zup hi 39 0 0 3) 39 0 1 2) 37 0 5 1) 37 0 6 2) 37 0 17 1) hr (fun (hi1 : zI) => P hi1)) :
    WP mX12_init 370 [some (.inr (some (37, 0)))] [] hi hr (zQ1v hr P) :=
  WP.aload_n (pc2 := 371) (i := 0) rfl (by decide +kernel) rfl <|
  WP.getR (pc2 := 374) rfl (by decide +kernel) zc_12 zSh_37 (by decide) rfl lf_X12_20 rfl (rs_37_7 hM) <|
  WP.iconst (pc2 := 375) (x := 0) rfl (by decide +kernel) (by decide) <|
  WP.iconst (pc2 := 376) (x := 3) rfl (by decide +kernel) (by decide) <|
  WP.iastore (pc2 := 377) rfl (by decide +kernel) zSh_39 rfl (by decide) <|
  WP.aload_n (pc2 := 378) (i := 0) rfl (by decide +kernel) rfl <|
  WP.getR (pc2 := 381) rfl (by decide +kernel) zc_12 zSh_37 (by decide) rfl lf_X12_20 rfl (rs_37_7 hM) <|
  WP.iconst (pc2 := 382) (x := 1) rfl (by decide +kernel) (by decide) <|
  WP.iconst (pc2 := 383) (x := 2) rfl (by decide +kernel) (by decide) <|
  WP.iastore (pc2 := 384) rfl (by decide +kernel) zSh_39 rfl (by decide) <|
  WP.aload_n (pc2 := 385) (i := 0) rfl (by decide +kernel) rfl <|
  WP.iconst (pc2 := 386) (x := 1) rfl (by decide +kernel) (by decide) <|
  WP.putI (pc2 := 389) rfl (by decide +kernel) zc_12 zSh_37 (by decide) rfl lf_X12_149 rfl (z_int _) rfl <|
  WP.aload_n (pc2 := 390) (i := 0) rfl (by decide +kernel) rfl <|
  WP.iconst (pc2 := 391) (x := 2) rfl (by decide +kernel) (by decide) <|
  WP.putI (pc2 := 394) rfl (by decide +kernel) zc_12 zSh_37 (by decide) rfl lf_X12_152 rfl (z_int _) rfl <|
  WP.aload_n (pc2 := 395) (i := 0) rfl (by decide +kernel) rfl <|
  WP.iconst (pc2 := 396) (x := 1) rfl (by decide +kernel) (by decide) <|
  WP.putI (pc2 := 399) rfl (by decide +kernel) zc_12 zSh_37 (by decide) rfl lf_X12_155 rfl (z_int _) rfl <|
  WP.aload_n (pc2 := 400) (i := 0) rfl (by decide +kernel) rfl <|
  WP.callV (y := mX12_init) (index := 158) (pc2 := 403) (y' := mX12_begins) (vs := []) rfl (by decide +kernel) okX12_begins ⟨by decide, by decide⟩ ⟨lm_X12_158, ivX12_begins⟩ zSh_37 zc_12 (Nat.le_of_ble_eq_true rfl) ⟨rfl, rfl⟩ rfl (WP.c1v F (fun hi1 f2 =>
  WP.vret (by decide +kernel) rfl ⟨rfl, rfl, f2⟩))

