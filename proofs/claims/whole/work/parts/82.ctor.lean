/-! constructors: what each leaves of ints and references -/
section ZR
variable {y y' : zM} {pc : Nat} {ls : List (Option zV)} {st : List zV} {n ac av : Nat} {hi : zI} {hr : zR} {Q : zQ}
theorem zlt {a : Nat} (h : a < 174) : a < zTOT := h
theorem VP.pcx {b : Nat} (h : pc = b) (k : VP y b ls st n ac av hi hr Q) : VP y pc ls st n ac av hi hr Q := by
  subst h; exact k
theorem VP.lsx {ls' : List (Option zV)} (h : ls = ls') (k : VP y pc ls' st n ac av hi hr Q) : VP y pc ls st n ac av hi hr Q := by
  subst h; exact k
theorem VP.nw {pc2 n2 ac2 av2 : Nat} {k c N : Nat} {j : Int} {C : String} {T : u_T} {ty : Nat → FieldType} {index : Nat} (hp : pc + 3 = pc2) (hn2 : n + 1 = n2) (ha : ac - 1 = ac2) (hb : av - N = av2) (hd : decode (zBy y) pc = .ok (.new index, 3)) (hz : zCl c C T N ty) (hl : Cond.classLink (zNm y).cls index C ∈ zTb) (hn : n < zTOT) (hq : zAL n = (k, j)) (hk : zSh k = .inl c) (hac : 1 ≤ ac) (hav : N ≤ av)
    (kk : VP y pc2 ls (.inr (some (k, j)) :: st) n2 ac2 av2 (zclr hi k j) (zclrR hr k j) Q) : VP y pc ls st n ac av hi hr Q := by
  subst hp hn2 ha hb
  exact VP.new hd hz hl hn hq hk hac hav kk
theorem VP.nar {pc2 n2 ac2 av2 : Nat} {k len t : Nat} {j Ln : Int} {atype : ArrayType} (hp : pc + 2 = pc2) (hn2 : n + 1 = n2) (ha : ac - 1 = ac2) (hb : av - len = av2) (hL : (len : Int) = Ln) (hd : decode (zBy y) pc = .ok (.newarray atype, 2)) (hl : Cond.arrayClass (newarray.typeOf atype) ∈ zTb) (ht : (t = 0 ∧ newarray.typeOf atype = .int) ∨ (t = 1 ∧ newarray.typeOf atype = .byte) ∨ (t = 2 ∧ newarray.typeOf atype = .boolean)) (hn : n < zTOT) (hq : zAL n = (k, j)) (hk : zSh k = .inr (t, len)) (hlen : len < 67108864) (hac : 1 ≤ ac) (hav : len ≤ av)
    (kk : VP y pc2 ls (.inr (some (k, j)) :: st) n2 ac2 av2 (zclr hi k j) (zclrR hr k j) Q) : VP y pc ls (.inl Ln :: st) n ac av hi hr Q := by
  subst hp hn2 ha hb hL
  exact VP.newarr hd hl ht hn hq hk hlen hac hav kk
theorem VP.narL {pc2 n2 ac2 av2 : Nat} {k len : Nat} {j Ln : Int} {atype : ArrayType} (hp : pc + 2 = pc2) (hn2 : n + 1 = n2) (ha : ac - 1 = ac2) (hb : av - len = av2) (hL : (len : Int) = Ln) (hd : decode (zBy y) pc = .ok (.newarray atype, 2)) (hl : Cond.arrayClass (newarray.typeOf atype) ∈ zTb) (ht : newarray.typeOf atype = .long) (hn : n < zTOT) (hq : zAL n = (k, j)) (hk : zSh k = .inr (6, len)) (hlen : len < 67108864) (hac : 1 ≤ ac) (hav : len ≤ av)
    (kk : VP y pc2 ls (.inr (some (k, j)) :: st) n2 ac2 av2 (zclr hi k j) (zclrR hr k j) Q) : VP y pc ls (.inl Ln :: st) n ac av hi hr Q := by
  subst hp hn2 ha hb hL
  exact VP.newarrL hd hl ht hn hq hk hlen hac hav kk
theorem VP.anar {pc2 n2 ac2 av2 : Nat} {k len t : Nat} {j Ln : Int} {index : Nat} {C : String} (hp : pc + 3 = pc2) (hn2 : n + 1 = n2) (ha : ac - 1 = ac2) (hb : av - len = av2) (hL : (len : Int) = Ln) (hd : decode (zBy y) pc = .ok (.anewarray index, 3)) (hcl : Cond.classLink (zNm y).cls index C ∈ zTb) (hl : Cond.arrayOver (.object C) ∈ zTb) (ht : (t = 3 ∧ C = RX0) ∨ (t = 4 ∧ C = RX3) ∨ (t = 5 ∧ C = RX9)) (hn : n < zTOT) (hq : zAL n = (k, j)) (hk : zSh k = .inr (t, len)) (hlen : len < 67108864) (hac : 1 ≤ ac) (hav : len ≤ av)
    (kk : VP y pc2 ls (.inr (some (k, j)) :: st) n2 ac2 av2 (zclr hi k j) (zclrR hr k j) Q) : VP y pc ls (.inl Ln :: st) n ac av hi hr Q := by
  subst hp hn2 ha hb hL
  exact VP.anewarr hd hcl hl ht hn hq hk hlen hac hav kk
theorem VP.ini {pc2 n2 ac2 av2 : Nat} {hi2 : zI} {hr2 : zR} {q : Nat × Int} {index : Nat} (hp : pc + 3 = pc2) (ha : ac - zMc y' = ac2) (hb : av - zMs y' = av2) (hd : decode (zBy y) pc = .ok (.invokespecial index, 3)) (hO : zOK y' 0 1) (hR : zRo y y') (hl : Cond.methodLink (zNm y).cls index (zNm y') ∈ zTb ∨ ∃ host, Cond.methodLinkNest (zNm y).cls index (zNm y') host ∈ zTb) (hin : Cond.instanceMethod (zNm y') ∈ zTb) (hnm : (zNm y').name = "<init>") (hrt : zRt y' = none)
    (hst : zw st ≤ 8) (hmc : zMc y' ≤ ac) (hms : zMs y' ≤ av) (kk : ∀ Q' : zQ, Q' none n2 hi2 hr2 → VPm y' [.inr (some q)] n hi hr Q') (k : VP y pc2 ls st n2 ac2 av2 hi2 hr2 Q) : VP y pc ls (.inr (some q) :: st) n ac av hi hr Q := by
  subst hp ha hb
  exact VP.callI (vs := []) hd hO hR hl hin hnm hrt hst hmc hms rfl (kk _ k)
theorem VPm.to {vs : List zV} (h1 : zen y vs = ls) (h2 : zMc y = ac) (h3 : zMs y = av) (k : VP y 0 ls [] n ac av hi hr Q) : VPm y vs n hi hr Q := by
  subst h1 h2 h3; exact k
theorem zn_mem {c : Cond} (i : Nat) (h : zNests[i]? = some c) : c ∈ zTb := List.mem_append_right _ (List.mem_of_getElem? h)
end ZR
def sIX7 (hi : zI) : zI := (zclr hi 3 0)
def sRX7 (hr : zR) : zR := (zupR (zclrR hr 3 0) 2 0 0 (some (3, 0)))
theorem CX7 {n : Nat} {hi : zI} {hr : zR} (hn : n + 1 ≤ 174) (h0 : zAL (n) = (3, 0)) (Q : zQ) (k : Q none (n + 1) (sIX7 hi) (sRX7 hr)) : VPm mX7_init [.inr (some (2, 0))] n hi hr Q :=
  VPm.to rfl rfl rfl <|
  VP.aload_n (i := 0) (by decide +kernel) rfl <| VP.pcx (b := 1) rfl <|
  VP.objInit (by decide +kernel) lm_X7_1 l_oi l_oc ⟨by decide, by decide⟩ (by decide) <| VP.pcx (b := 4) rfl <|
  VP.aload_n (i := 0) (by decide +kernel) rfl <| VP.pcx (b := 5) rfl <|
  VP.sipush (x := 400) (by decide +kernel) ⟨by decide +kernel, by decide⟩ <| VP.pcx (b := 8) rfl <|
  VP.nar (pc2 := 10) (n2 := n + 1) (ac2 := 0) (av2 := 0) (len := 400) (atype := .byte) rfl rfl rfl rfl rfl (by decide +kernel) l_acB (Or.inr (Or.inl ⟨rfl, rfl⟩)) (zlt (by omega)) h0 zSh_3 (by decide) (by decide) (by decide) <|
  VP.putR (i := 0) (by decide +kernel) zc_7 zSh_2 (by decide) rfl lf_X7_9 (Or.inr ⟨rfl, rfl, rfl⟩) (Or.inr ⟨_, rfl⟩) <| VP.pcx (b := 13) rfl <|
  VP.vret (by decide +kernel) rfl k
def sIX2 (hi : zI) : zI := (zup (zclr (zclr hi 5 0) 6 0) 4 0 2 (-1))
def sRX2 (hr : zR) : zR := (zupR (zclrR (zupR (zclrR hr 5 0) 4 0 0 (some (5, 0))) 6 0) 4 0 1 (some (6, 0)))
theorem CX2 {n : Nat} {hi : zI} {hr : zR} (hn : n + 2 ≤ 174) (h0 : zAL (n) = (5, 0)) (h1 : zAL (n + 1) = (6, 0)) (Q : zQ) (k : Q none (n + 2) (sIX2 hi) (sRX2 hr)) : VPm mX2_init [.inr (some (4, 0))] n hi hr Q :=
  VPm.to rfl rfl rfl <|
  VP.aload_n (i := 0) (by decide +kernel) rfl <| VP.pcx (b := 1) rfl <|
  VP.objInit (by decide +kernel) lm_X2_3 l_oi l_oc ⟨by decide, by decide⟩ (by decide) <| VP.pcx (b := 4) rfl <|
  VP.aload_n (i := 0) (by decide +kernel) rfl <| VP.pcx (b := 5) rfl <|
  VP.sipush (x := 256) (by decide +kernel) ⟨by decide +kernel, by decide⟩ <| VP.pcx (b := 8) rfl <|
  VP.nar (pc2 := 10) (n2 := n + 1) (ac2 := 1) (av2 := 256) (len := 256) (atype := .int) rfl rfl rfl rfl rfl (by decide +kernel) l_acI (Or.inl ⟨rfl, rfl⟩) (zlt (by omega)) h0 zSh_5 (by decide) (by decide) (by decide) <|
  VP.putR (i := 0) (by decide +kernel) zc_2 zSh_4 (by decide) rfl lf_X2_9 (Or.inr ⟨rfl, rfl, rfl⟩) (Or.inr ⟨_, rfl⟩) <| VP.pcx (b := 13) rfl <|
  VP.aload_n (i := 0) (by decide +kernel) rfl <| VP.pcx (b := 14) rfl <|
  VP.sipush (x := 256) (by decide +kernel) ⟨by decide +kernel, by decide⟩ <| VP.pcx (b := 17) rfl <|
  VP.nar (pc2 := 19) (n2 := n + 2) (ac2 := 0) (av2 := 0) (len := 256) (atype := .int) rfl rfl rfl rfl rfl (by decide +kernel) l_acI (Or.inl ⟨rfl, rfl⟩) (zlt (by omega)) h1 zSh_6 (by decide) (by decide) (by decide) <|
  VP.putR (i := 1) (by decide +kernel) zc_2 zSh_4 (by decide) rfl lf_X2_15 (Or.inr ⟨rfl, rfl, rfl⟩) (Or.inr ⟨_, rfl⟩) <| VP.pcx (b := 22) rfl <|
  VP.aload_n (i := 0) (by decide +kernel) rfl <| VP.pcx (b := 23) rfl <|
  VP.iconst (x := (-1)) (by decide +kernel) (by decide) <| VP.pcx (b := 24) rfl <|
  VP.putI (i := 2) (by decide +kernel) zc_2 zSh_4 (by decide) rfl lf_X2_18 rfl (z_int _) <| VP.pcx (b := 27) rfl <|
  VP.vret (by decide +kernel) rfl k
def sIX3 (hi : zI) (j : Int) : zI := hi
def sRX3 (hr : zR) (j : Int) : zR := hr
theorem CX3 {n : Nat} {hi : zI} {hr : zR} {j : Int} (hn : n + 0 ≤ 174) (Q : zQ) (k : Q none (n + 0) (sIX3 hi j) (sRX3 hr j)) : VPm mX3_init [.inr (some (10, j))] n hi hr Q :=
  VPm.to rfl rfl rfl <|
  VP.aload_n (i := 0) (by decide +kernel) rfl <| VP.pcx (b := 1) rfl <|
  VP.objInit (by decide +kernel) lm_X3_1 l_oi l_oc ⟨by decide, by decide⟩ (by decide) <| VP.pcx (b := 4) rfl <|
  VP.vret (by decide +kernel) rfl k
def sIX9 (hi : zI) (j : Int) : zI := hi
def sRX9 (hr : zR) (j : Int) : zR := hr
theorem CX9 {n : Nat} {hi : zI} {hr : zR} {j : Int} (hn : n + 0 ≤ 174) (Q : zQ) (k : Q none (n + 0) (sIX9 hi j) (sRX9 hr j)) : VPm mX9_init [.inr (some (36, j))] n hi hr Q :=
  VPm.to rfl rfl rfl <|
  VP.aload_n (i := 0) (by decide +kernel) rfl <| VP.pcx (b := 1) rfl <|
  VP.objInit (by decide +kernel) lm_X9_3 l_oi l_oc ⟨by decide, by decide⟩ (by decide) <| VP.pcx (b := 4) rfl <|
  VP.vret (by decide +kernel) rfl k
def sIX8 (hi : zI) : zI := (zclr (zclr (zclr (zclr (zclr hi 12 0) 13 0) 14 0) 15 0) 16 0)
def sRX8 (hr : zR) : zR := (zupR (zclrR (zupR (zclrR (zupR (zclrR (zupR (zclrR (zupR (zclrR hr 12 0) 11 0 0 (some (12, 0))) 13 0) 11 0 1 (some (13, 0))) 14 0) 11 0 2 (some (14, 0))) 15 0) 11 0 3 (some (15, 0))) 16 0) 11 0 4 (some (16, 0)))
theorem CX8 {n : Nat} {hi : zI} {hr : zR} (hn : n + 5 ≤ 174) (h0 : zAL (n) = (12, 0)) (h1 : zAL (n + 1) = (13, 0)) (h2 : zAL (n + 2) = (14, 0)) (h3 : zAL (n + 3) = (15, 0)) (h4 : zAL (n + 4) = (16, 0)) (Q : zQ) (k : Q none (n + 5) (sIX8 hi) (sRX8 hr)) : VPm mX8_init [.inr (some (11, 0))] n hi hr Q :=
  VPm.to rfl rfl rfl <|
  VP.aload_n (i := 0) (by decide +kernel) rfl <| VP.pcx (b := 1) rfl <|
  VP.objInit (by decide +kernel) lm_X8_3 l_oi l_oc ⟨by decide, by decide⟩ (by decide) <| VP.pcx (b := 4) rfl <|
  VP.aload_n (i := 0) (by decide +kernel) rfl <| VP.pcx (b := 5) rfl <|
  VP.bipush (x := 60) (by decide +kernel) ⟨by decide +kernel, by decide⟩ <| VP.pcx (b := 7) rfl <|
  VP.nar (pc2 := 9) (n2 := n + 1) (ac2 := 4) (av2 := 240) (len := 60) (atype := .int) rfl rfl rfl rfl rfl (by decide +kernel) l_acI (Or.inl ⟨rfl, rfl⟩) (zlt (by omega)) h0 zSh_12 (by decide) (by decide) (by decide) <|
  VP.putR (i := 0) (by decide +kernel) zc_8 zSh_11 (by decide) rfl lf_X8_11 (Or.inr ⟨rfl, rfl, rfl⟩) (Or.inr ⟨_, rfl⟩) <| VP.pcx (b := 12) rfl <|
  VP.aload_n (i := 0) (by decide +kernel) rfl <| VP.pcx (b := 13) rfl <|
  VP.bipush (x := 60) (by decide +kernel) ⟨by decide +kernel, by decide⟩ <| VP.pcx (b := 15) rfl <|
  VP.nar (pc2 := 17) (n2 := n + 2) (ac2 := 3) (av2 := 180) (len := 60) (atype := .int) rfl rfl rfl rfl rfl (by decide +kernel) l_acI (Or.inl ⟨rfl, rfl⟩) (zlt (by omega)) h1 zSh_13 (by decide) (by decide) (by decide) <|
  VP.putR (i := 1) (by decide +kernel) zc_8 zSh_11 (by decide) rfl lf_X8_15 (Or.inr ⟨rfl, rfl, rfl⟩) (Or.inr ⟨_, rfl⟩) <| VP.pcx (b := 20) rfl <|
  VP.aload_n (i := 0) (by decide +kernel) rfl <| VP.pcx (b := 21) rfl <|
  VP.bipush (x := 60) (by decide +kernel) ⟨by decide +kernel, by decide⟩ <| VP.pcx (b := 23) rfl <|
  VP.nar (pc2 := 25) (n2 := n + 3) (ac2 := 2) (av2 := 120) (len := 60) (atype := .int) rfl rfl rfl rfl rfl (by decide +kernel) l_acI (Or.inl ⟨rfl, rfl⟩) (zlt (by omega)) h2 zSh_14 (by decide) (by decide) (by decide) <|
  VP.putR (i := 2) (by decide +kernel) zc_8 zSh_11 (by decide) rfl lf_X8_18 (Or.inr ⟨rfl, rfl, rfl⟩) (Or.inr ⟨_, rfl⟩) <| VP.pcx (b := 28) rfl <|
  VP.aload_n (i := 0) (by decide +kernel) rfl <| VP.pcx (b := 29) rfl <|
  VP.bipush (x := 60) (by decide +kernel) ⟨by decide +kernel, by decide⟩ <| VP.pcx (b := 31) rfl <|
  VP.nar (pc2 := 33) (n2 := n + 4) (ac2 := 1) (av2 := 60) (len := 60) (atype := .int) rfl rfl rfl rfl rfl (by decide +kernel) l_acI (Or.inl ⟨rfl, rfl⟩) (zlt (by omega)) h3 zSh_15 (by decide) (by decide) (by decide) <|
  VP.putR (i := 3) (by decide +kernel) zc_8 zSh_11 (by decide) rfl lf_X8_21 (Or.inr ⟨rfl, rfl, rfl⟩) (Or.inr ⟨_, rfl⟩) <| VP.pcx (b := 36) rfl <|
  VP.aload_n (i := 0) (by decide +kernel) rfl <| VP.pcx (b := 37) rfl <|
  VP.bipush (x := 60) (by decide +kernel) ⟨by decide +kernel, by decide⟩ <| VP.pcx (b := 39) rfl <|
  VP.nar (pc2 := 41) (n2 := n + 5) (ac2 := 0) (av2 := 0) (len := 60) (atype := .int) rfl rfl rfl rfl rfl (by decide +kernel) l_acI (Or.inl ⟨rfl, rfl⟩) (zlt (by omega)) h4 zSh_16 (by decide) (by decide) (by decide) <|
  VP.putR (i := 4) (by decide +kernel) zc_8 zSh_11 (by decide) rfl lf_X8_24 (Or.inr ⟨rfl, rfl, rfl⟩) (Or.inr ⟨_, rfl⟩) <| VP.pcx (b := 44) rfl <|
  VP.vret (by decide +kernel) rfl k
def sIX4 (hi : zI) : zI := (zup (zclr (zclr (zclr (zclr (zclr hi 20 0) 21 0) 22 0) 23 0) 23 1) 19 0 7 1)
def sRX4 (hr : zR) : zR := (zupR (zclrR (zupR (zclrR (zupR (zclrR (zupR (zclrR (zupR (zclrR hr 20 0) 19 0 0 (some (20, 0))) 21 0) 19 0 1 (some (21, 0))) 22 0) 19 0 2 (some (22, 0))) 23 0) 19 0 3 (some (23, 0))) 23 1) 19 0 4 (some (23, 1)))
theorem CX4 {n : Nat} {hi : zI} {hr : zR} (hn : n + 5 ≤ 174) (h0 : zAL (n) = (20, 0)) (h1 : zAL (n + 1) = (21, 0)) (h2 : zAL (n + 2) = (22, 0)) (h3 : zAL (n + 3) = (23, 0)) (h4 : zAL (n + 4) = (23, 1)) (Q : zQ) (k : Q none (n + 5) (sIX4 hi) (sRX4 hr)) : VPm mX4_init [.inr (some (19, 0))] n hi hr Q :=
  VPm.to rfl rfl rfl <|
  VP.aload_n (i := 0) (by decide +kernel) rfl <| VP.pcx (b := 1) rfl <|
  VP.objInit (by decide +kernel) lm_X4_3 l_oi l_oc ⟨by decide, by decide⟩ (by decide) <| VP.pcx (b := 4) rfl <|
  VP.aload_n (i := 0) (by decide +kernel) rfl <| VP.pcx (b := 5) rfl <|
  VP.sipush (x := 4816) (by decide +kernel) ⟨by decide +kernel, by decide⟩ <| VP.pcx (b := 8) rfl <|
  VP.narL (pc2 := 10) (n2 := n + 1) (ac2 := 4) (av2 := 64) (len := 4816) (atype := .long) rfl rfl rfl rfl rfl (by decide +kernel) l_acJ rfl (zlt (by omega)) h0 zSh_20 (by decide) (by decide) (by decide) <|
  VP.putR (i := 0) (by decide +kernel) zc_4 zSh_19 (by decide) rfl lf_X4_9 (Or.inr ⟨rfl, rfl, rfl⟩) (Or.inr ⟨_, rfl⟩) <| VP.pcx (b := 13) rfl <|
  VP.aload_n (i := 0) (by decide +kernel) rfl <| VP.pcx (b := 14) rfl <|
  VP.bipush (x := 16) (by decide +kernel) ⟨by decide +kernel, by decide⟩ <| VP.pcx (b := 16) rfl <|
  VP.narL (pc2 := 18) (n2 := n + 2) (ac2 := 3) (av2 := 48) (len := 16) (atype := .long) rfl rfl rfl rfl rfl (by decide +kernel) l_acJ rfl (zlt (by omega)) h1 zSh_21 (by decide) (by decide) (by decide) <|
  VP.putR (i := 1) (by decide +kernel) zc_4 zSh_19 (by decide) rfl lf_X4_15 (Or.inr ⟨rfl, rfl, rfl⟩) (Or.inr ⟨_, rfl⟩) <| VP.pcx (b := 21) rfl <|
  VP.aload_n (i := 0) (by decide +kernel) rfl <| VP.pcx (b := 22) rfl <|
  VP.bipush (x := 16) (by decide +kernel) ⟨by decide +kernel, by decide⟩ <| VP.pcx (b := 24) rfl <|
  VP.narL (pc2 := 26) (n2 := n + 3) (ac2 := 2) (av2 := 32) (len := 16) (atype := .long) rfl rfl rfl rfl rfl (by decide +kernel) l_acJ rfl (zlt (by omega)) h2 zSh_22 (by decide) (by decide) (by decide) <|
  VP.putR (i := 2) (by decide +kernel) zc_4 zSh_19 (by decide) rfl lf_X4_18 (Or.inr ⟨rfl, rfl, rfl⟩) (Or.inr ⟨_, rfl⟩) <| VP.pcx (b := 29) rfl <|
  VP.aload_n (i := 0) (by decide +kernel) rfl <| VP.pcx (b := 30) rfl <|
  VP.bipush (x := 16) (by decide +kernel) ⟨by decide +kernel, by decide⟩ <| VP.pcx (b := 32) rfl <|
  VP.narL (pc2 := 34) (n2 := n + 4) (ac2 := 1) (av2 := 16) (len := 16) (atype := .long) rfl rfl rfl rfl rfl (by decide +kernel) l_acJ rfl (zlt (by omega)) h3 zSh_23 (by decide) (by decide) (by decide) <|
  VP.putR (i := 3) (by decide +kernel) zc_4 zSh_19 (by decide) rfl lf_X4_21 (Or.inl rfl) (Or.inr ⟨_, rfl⟩) <| VP.pcx (b := 37) rfl <|
  VP.aload_n (i := 0) (by decide +kernel) rfl <| VP.pcx (b := 38) rfl <|
  VP.bipush (x := 16) (by decide +kernel) ⟨by decide +kernel, by decide⟩ <| VP.pcx (b := 40) rfl <|
  VP.narL (pc2 := 42) (n2 := n + 5) (ac2 := 0) (av2 := 0) (len := 16) (atype := .long) rfl rfl rfl rfl rfl (by decide +kernel) l_acJ rfl (zlt (by omega)) h4 zSh_23 (by decide) (by decide) (by decide) <|
  VP.putR (i := 4) (by decide +kernel) zc_4 zSh_19 (by decide) rfl lf_X4_24 (Or.inl rfl) (Or.inr ⟨_, rfl⟩) <| VP.pcx (b := 45) rfl <|
  VP.aload_n (i := 0) (by decide +kernel) rfl <| VP.pcx (b := 46) rfl <|
  VP.iconst (x := 1) (by decide +kernel) (by decide) <| VP.pcx (b := 47) rfl <|
  VP.putI (i := 7) (by decide +kernel) zc_4 zSh_19 (by decide) rfl lf_X4_27 rfl (z_int _) <| VP.pcx (b := 50) rfl <|
  VP.vret (by decide +kernel) rfl k
def sIX6 (hi : zI) (j : Int) : zI := (zclr (zclr hi 26 j) 28 j)
def sRX6 (hr : zR) (j : Int) : zR := (zupR (zclrR (zupR (zclrR hr 26 j) 25 j 0 (some (26, j))) 28 j) 25 j 1 (some (28, j)))
theorem CX6 {n : Nat} {hi : zI} {hr : zR} {j : Int} (hn : n + 2 ≤ 174) (h0 : zAL (n) = (26, j)) (h1 : zAL (n + 1) = (28, j)) (Q : zQ) (k : Q none (n + 2) (sIX6 hi j) (sRX6 hr j)) : VPm mX6_init [.inr (some (25, j))] n hi hr Q :=
  VPm.to rfl rfl rfl <|
  VP.aload_n (i := 0) (by decide +kernel) rfl <| VP.pcx (b := 1) rfl <|
  VP.objInit (by decide +kernel) lm_X6_3 l_oi l_oc ⟨by decide, by decide⟩ (by decide) <| VP.pcx (b := 4) rfl <|
  VP.aload_n (i := 0) (by decide +kernel) rfl <| VP.pcx (b := 5) rfl <|
  VP.sipush (x := 301) (by decide +kernel) ⟨by decide +kernel, by decide⟩ <| VP.pcx (b := 8) rfl <|
  VP.nar (pc2 := 10) (n2 := n + 1) (ac2 := 1) (av2 := 301) (len := 301) (atype := .int) rfl rfl rfl rfl rfl (by decide +kernel) l_acI (Or.inl ⟨rfl, rfl⟩) (zlt (by omega)) h0 zSh_26 (by decide) (by decide) (by decide) <|
  VP.putR (i := 0) (by decide +kernel) zc_6 zSh_25 (by decide) rfl lf_X6_9 (Or.inr ⟨rfl, rfl, rfl⟩) (Or.inr ⟨_, rfl⟩) <| VP.pcx (b := 13) rfl <|
  VP.aload_n (i := 0) (by decide +kernel) rfl <| VP.pcx (b := 14) rfl <|
  VP.sipush (x := 301) (by decide +kernel) ⟨by decide +kernel, by decide⟩ <| VP.pcx (b := 17) rfl <|
  VP.nar (pc2 := 19) (n2 := n + 2) (ac2 := 0) (av2 := 0) (len := 301) (atype := .int) rfl rfl rfl rfl rfl (by decide +kernel) l_acI (Or.inl ⟨rfl, rfl⟩) (zlt (by omega)) h1 zSh_28 (by decide) (by decide) (by decide) <|
  VP.putR (i := 1) (by decide +kernel) zc_6 zSh_25 (by decide) rfl lf_X6_15 (Or.inr ⟨rfl, rfl, rfl⟩) (Or.inr ⟨_, rfl⟩) <| VP.pcx (b := 22) rfl <|
  VP.vret (by decide +kernel) rfl k
def sIX10 (hi : zI) (j : Int) : zI := (zclr (zclr (zclr (zclr (zclr hi 31 j) 32 j) 33 j) 34 j) 35 j)
def sRX10 (hr : zR) (j : Int) : zR := (zupR (zclrR (zupR (zclrR (zupR (zclrR (zupR (zclrR (zupR (zclrR hr 31 j) 30 j 0 (some (31, j))) 32 j) 30 j 1 (some (32, j))) 33 j) 30 j 2 (some (33, j))) 34 j) 30 j 3 (some (34, j))) 35 j) 30 j 4 (some (35, j)))
theorem CX10 {n : Nat} {hi : zI} {hr : zR} {j : Int} (hn : n + 5 ≤ 174) (h0 : zAL (n) = (31, j)) (h1 : zAL (n + 1) = (32, j)) (h2 : zAL (n + 2) = (33, j)) (h3 : zAL (n + 3) = (34, j)) (h4 : zAL (n + 4) = (35, j)) (Q : zQ) (k : Q none (n + 5) (sIX10 hi j) (sRX10 hr j)) : VPm mX10_init [.inr (some (30, j))] n hi hr Q :=
  VPm.to rfl rfl rfl <|
  VP.aload_n (i := 0) (by decide +kernel) rfl <| VP.pcx (b := 1) rfl <|
  VP.objInit (by decide +kernel) lm_X10_3 l_oi l_oc ⟨by decide, by decide⟩ (by decide) <| VP.pcx (b := 4) rfl <|
  VP.aload_n (i := 0) (by decide +kernel) rfl <| VP.pcx (b := 5) rfl <|
  VP.sipush (x := 256) (by decide +kernel) ⟨by decide +kernel, by decide⟩ <| VP.pcx (b := 8) rfl <|
  VP.nar (pc2 := 10) (n2 := n + 1) (ac2 := 4) (av2 := 1296) (len := 256) (atype := .int) rfl rfl rfl rfl rfl (by decide +kernel) l_acI (Or.inl ⟨rfl, rfl⟩) (zlt (by omega)) h0 zSh_31 (by decide) (by decide) (by decide) <|
  VP.putR (i := 0) (by decide +kernel) zc_10 zSh_30 (by decide) rfl lf_X10_9 (Or.inr ⟨rfl, rfl, rfl⟩) (Or.inr ⟨_, rfl⟩) <| VP.pcx (b := 13) rfl <|
  VP.aload_n (i := 0) (by decide +kernel) rfl <| VP.pcx (b := 14) rfl <|
  VP.sipush (x := 256) (by decide +kernel) ⟨by decide +kernel, by decide⟩ <| VP.pcx (b := 17) rfl <|
  VP.nar (pc2 := 19) (n2 := n + 2) (ac2 := 3) (av2 := 1040) (len := 256) (atype := .int) rfl rfl rfl rfl rfl (by decide +kernel) l_acI (Or.inl ⟨rfl, rfl⟩) (zlt (by omega)) h1 zSh_32 (by decide) (by decide) (by decide) <|
  VP.putR (i := 1) (by decide +kernel) zc_10 zSh_30 (by decide) rfl lf_X10_15 (Or.inr ⟨rfl, rfl, rfl⟩) (Or.inr ⟨_, rfl⟩) <| VP.pcx (b := 22) rfl <|
  VP.aload_n (i := 0) (by decide +kernel) rfl <| VP.pcx (b := 23) rfl <|
  VP.sipush (x := 1024) (by decide +kernel) ⟨by decide +kernel, by decide⟩ <| VP.pcx (b := 26) rfl <|
  VP.nar (pc2 := 28) (n2 := n + 3) (ac2 := 2) (av2 := 16) (len := 1024) (atype := .int) rfl rfl rfl rfl rfl (by decide +kernel) l_acI (Or.inl ⟨rfl, rfl⟩) (zlt (by omega)) h2 zSh_33 (by decide) (by decide) (by decide) <|
  VP.putR (i := 2) (by decide +kernel) zc_10 zSh_30 (by decide) rfl lf_X10_18 (Or.inr ⟨rfl, rfl, rfl⟩) (Or.inr ⟨_, rfl⟩) <| VP.pcx (b := 31) rfl <|
  VP.aload_n (i := 0) (by decide +kernel) rfl <| VP.pcx (b := 32) rfl <|
  VP.bipush (x := 10) (by decide +kernel) ⟨by decide +kernel, by decide⟩ <| VP.pcx (b := 34) rfl <|
  VP.nar (pc2 := 36) (n2 := n + 4) (ac2 := 1) (av2 := 6) (len := 10) (atype := .int) rfl rfl rfl rfl rfl (by decide +kernel) l_acI (Or.inl ⟨rfl, rfl⟩) (zlt (by omega)) h3 zSh_34 (by decide) (by decide) (by decide) <|
  VP.putR (i := 3) (by decide +kernel) zc_10 zSh_30 (by decide) rfl lf_X10_21 (Or.inr ⟨rfl, rfl, rfl⟩) (Or.inr ⟨_, rfl⟩) <| VP.pcx (b := 39) rfl <|
  VP.aload_n (i := 0) (by decide +kernel) rfl <| VP.pcx (b := 40) rfl <|
  VP.bipush (x := 6) (by decide +kernel) ⟨by decide +kernel, by decide⟩ <| VP.pcx (b := 42) rfl <|
  VP.nar (pc2 := 44) (n2 := n + 5) (ac2 := 0) (av2 := 0) (len := 6) (atype := .int) rfl rfl rfl rfl rfl (by decide +kernel) l_acI (Or.inl ⟨rfl, rfl⟩) (zlt (by omega)) h4 zSh_35 (by decide) (by decide) (by decide) <|
  VP.putR (i := 4) (by decide +kernel) zc_10 zSh_30 (by decide) rfl lf_X10_24 (Or.inr ⟨rfl, rfl, rfl⟩) (Or.inr ⟨_, rfl⟩) <| VP.pcx (b := 47) rfl <|
  VP.vret (by decide +kernel) rfl k
def sIX0 (hi : zI) (j : Int) : zI := (sIX6 (zclr hi 25 j) j)
def sRX0 (hr : zR) (j : Int) : zR := (zupR (sRX6 (zclrR hr 25 j) j) 24 j 0 (some (25, j)))
theorem CX0 {n : Nat} {hi : zI} {hr : zR} {j : Int} (hn : n + 3 ≤ 174) (h0 : zAL (n) = (25, j)) (h1 : zAL (n + 1) = (26, j)) (h2 : zAL (n + 2) = (28, j)) (Q : zQ) (k : Q none (n + 3) (sIX0 hi j) (sRX0 hr j)) : VPm mX0_init [.inr (some (24, j))] n hi hr Q :=
  VPm.to rfl rfl rfl <|
  VP.aload_n (i := 0) (by decide +kernel) rfl <| VP.pcx (b := 1) rfl <|
  VP.objInit (by decide +kernel) lm_X0_3 l_oi l_oc ⟨by decide, by decide⟩ (by decide) <| VP.pcx (b := 4) rfl <|
  VP.aload_n (i := 0) (by decide +kernel) rfl <| VP.pcx (b := 5) rfl <|
  VP.nw (pc2 := 8) (n2 := n + 1) (ac2 := 2) (av2 := 602) rfl rfl rfl rfl (by decide +kernel) zc_6 lc_X0_9 (zlt (by omega)) h0 zSh_25 (by decide) (by decide) <|
  VP.dup (by decide +kernel) <| VP.pcx (b := 9) rfl <|
  VP.ini (y' := mX6_init) (pc2 := 12) (ac2 := 0) (av2 := 0) rfl rfl rfl (by decide +kernel) okX6_init ⟨by decide, by decide⟩ (Or.inr ⟨_, zn_mem 6 rfl⟩) ivX6_init rfl rfl (Nat.le_of_ble_eq_true rfl) (by decide) (by decide) (fun Q' k' => CX6 (by omega) h1 h2 Q' k') <|
  VP.putR (i := 0) (by decide +kernel) zc_0 zSh_24 (by decide) rfl lf_X0_12 (Or.inr ⟨rfl, rfl, rfl⟩) (Or.inl ⟨_, rfl⟩) <| VP.pcx (b := 15) rfl <|
  VP.vret (by decide +kernel) rfl k
theorem al_m : ∀ i : Nat, i < 64 → zAL (9 + i) = (10, (i : Int)) := by decide +kernel
theorem al_a0 : ∀ i : Nat, i < 6 → zAL (87 + i * 4) = (24, (i : Int)) := by decide +kernel
theorem al_a1 : ∀ i : Nat, i < 6 → zAL (87 + i * 4 + 1) = (25, (i : Int)) := by decide +kernel
theorem al_a2 : ∀ i : Nat, i < 6 → zAL (87 + i * 4 + 2) = (26, (i : Int)) := by decide +kernel
theorem al_a3 : ∀ i : Nat, i < 6 → zAL (87 + i * 4 + 3) = (28, (i : Int)) := by decide +kernel
theorem al_v : ∀ i : Nat, i < 6 → zAL (124 + i) = (36, (i : Int)) := by decide +kernel
theorem VP.nx {y : zM} {pc : Nat} {ls : List (Option zV)} {st : List zV} {n n2 ac av : Nat} {hi : zI} {hr : zR} {Q : zQ} (h : n = n2) (k : VP y pc ls st n2 ac av hi hr Q) : VP y pc ls st n ac av hi hr Q := by
  subst h; exact k
def sIM : Nat → zI → zI
  | 0, hi => hi
  | i + 1, hi => sIX3 (zclr (sIM i hi) 10 i) i
def sRM : Nat → zR → zR
  | 0, hr => hr
  | i + 1, hr => zupR (sRX3 (zclrR (sRM i hr) 10 i) i) 9 0 i (some (10, i))
theorem sRM_k {hr : zR} {s : Int} : ∀ i : Nat, sRM i hr 7 0 s = hr 7 0 s
  | 0 => rfl
  | i + 1 => (show sRM (i + 1) hr 7 0 s = sRM i hr 7 0 s from rfl).trans (sRM_k i)
theorem LM {hi : zI} {hr : zR} {Q : zQ} (hg : hr 7 0 1 = some (9, 0)) (k : Q none 73 (sIM 64 hi) (sRM 64 hr)) : ∀ m i : Nat, i + m = 64 → VP mX5_init 28 [some (.inr (some (7, 0))), some (.inl (i : Int))] [] (9 + i) (m * 1) (m * 7) (sIM i hi) (sRM i hr) Q := by
  intro m
  induction m with
  | zero =>
    intro i hi0
    have e : i = 64 := by omega
    subst e
    exact VP.iload_n (i := 1) (by decide +kernel) rfl <| VP.pcx (b := 29) rfl <|
      VP.bipush (x := 64) (by decide +kernel) ⟨by decide +kernel, by decide⟩ <| VP.pcx (b := 31) rfl <|
      VP.icmp_ge (off := 22) (tgt := 53) (by decide +kernel) (by decide) (fun _ => VP.vret (by decide +kernel) rfl k) (fun h => absurd h (by decide))
  | succ m ih =>
    intro i hi0
    exact VP.iload_n (i := 1) (by decide +kernel) rfl <| VP.pcx (b := 29) rfl <|
      VP.bipush (x := 64) (by decide +kernel) ⟨by decide +kernel, by decide⟩ <| VP.pcx (b := 31) rfl <|
      VP.icmp_ge (off := 22) (tgt := 53) (by decide +kernel) (by decide) (fun h => absurd h (by omega)) (fun _ => VP.pcx (b := 34) rfl <|
      VP.aload_n (i := 0) (by decide +kernel) rfl <| VP.pcx (b := 35) rfl <|
      VP.getR (i := 1) (o := some (9, 0)) (by decide +kernel) zc_5 zSh_7 (by decide) rfl lf_X5_15 ((sRM_k i).trans hg) <| VP.pcx (b := 38) rfl <|
      VP.iload_n (i := 1) (by decide +kernel) rfl <| VP.pcx (b := 39) rfl <|
      VP.nw (pc2 := 42) (n2 := 9 + i + 1) (ac2 := m * 1 + 0) (av2 := m * 7 + 0) rfl rfl (by omega) (by omega) (by decide +kernel) zc_3 lc_X5_13 (zlt (by omega)) (al_m i (by omega)) zSh_10 (by omega) (by omega) <|
      VP.dup (by decide +kernel) <| VP.pcx (b := 43) rfl <|
      VP.ini (y' := mX3_init) (pc2 := 46) (ac2 := m * 1) (av2 := m * 7) rfl (by show _ - 0 = _; omega) (by show _ - 0 = _; omega) (by decide +kernel) okX3_init ⟨by decide, by decide⟩ (Or.inr ⟨_, zn_mem 2 rfl⟩) ivX3_init rfl rfl (Nat.le_of_ble_eq_true rfl) (by show 0 ≤ _; omega) (by show 0 ≤ _; omega) (fun Q' k' => CX3 (by omega) Q' k') <|
      VP.aastore (by decide +kernel) zSh_9 zSh_10 zc_3 (by decide) (by omega) (by show (i : Int) < ((64 : Nat) : Int); omega) <| VP.pcx (b := 47) rfl <|
      VP.iinc (i := 1) (d := 1) (by decide +kernel) rfl ⟨by omega, by omega⟩ <| VP.lsx (ls' := [some (.inr (some (7, 0))), some (.inl ((i + 1 : Nat) : Int))]) rfl <| VP.pcx (b := 50) rfl <|
      VP.goto (off := -22) (tgt := 28) (by decide +kernel) (by decide) <| VP.nx (show 9 + i + 1 = 9 + i + 1 by omega) <| ih (i + 1) (by omega))
def sIA : Nat → zI → zI
  | 0, hi => hi
  | i + 1, hi => sIX0 (zclr (sIA i hi) 24 i) i
def sRA : Nat → zR → zR
  | 0, hr => hr
  | i + 1, hr => zupR (sRX0 (zclrR (sRA i hr) 24 i) i) 18 0 i (some (24, i))
theorem sRA_k {hr : zR} {s : Int} : ∀ i : Nat, sRA i hr 17 0 s = hr 17 0 s
  | 0 => rfl
  | i + 1 => (show sRA (i + 1) hr 17 0 s = sRA i hr 17 0 s from rfl).trans (sRA_k i)
theorem LA {hi : zI} {hr : zR} {Q : zQ} (hg : hr 17 0 0 = some (18, 0)) (k : Q none 111 (sIA 6 hi) (sRA 6 hr)) : ∀ m i : Nat, i + m = 6 → VP mX1_init 36 [some (.inr (some (17, 0))), some (.inl (i : Int))] [] (87 + i * 4) (m * 4) (m * 617) (sIA i hi) (sRA i hr) Q := by
  intro m
  induction m with
  | zero =>
    intro i hi0
    have e : i = 6 := by omega
    subst e
    exact VP.iload_n (i := 1) (by decide +kernel) rfl <| VP.pcx (b := 37) rfl <|
      VP.bipush (x := 6) (by decide +kernel) ⟨by decide +kernel, by decide⟩ <| VP.pcx (b := 39) rfl <|
      VP.icmp_ge (off := 22) (tgt := 61) (by decide +kernel) (by decide) (fun _ => VP.vret (by decide +kernel) rfl k) (fun h => absurd h (by decide))
  | succ m ih =>
    intro i hi0
    exact VP.iload_n (i := 1) (by decide +kernel) rfl <| VP.pcx (b := 37) rfl <|
      VP.bipush (x := 6) (by decide +kernel) ⟨by decide +kernel, by decide⟩ <| VP.pcx (b := 39) rfl <|
      VP.icmp_ge (off := 22) (tgt := 61) (by decide +kernel) (by decide) (fun h => absurd h (by omega)) (fun _ => VP.pcx (b := 42) rfl <|
      VP.aload_n (i := 0) (by decide +kernel) rfl <| VP.pcx (b := 43) rfl <|
      VP.getR (i := 0) (o := some (18, 0)) (by decide +kernel) zc_1 zSh_17 (by decide) rfl lf_X1_11 ((sRA_k i).trans hg) <| VP.pcx (b := 46) rfl <|
      VP.iload_n (i := 1) (by decide +kernel) rfl <| VP.pcx (b := 47) rfl <|
      VP.nw (pc2 := 50) (n2 := 87 + i * 4 + 1) (ac2 := m * 4 + 3) (av2 := m * 617 + 610) rfl rfl (by omega) (by omega) (by decide +kernel) zc_0 lc_X1_9 (zlt (by omega)) (al_a0 i (by omega)) zSh_24 (by omega) (by omega) <|
      VP.dup (by decide +kernel) <| VP.pcx (b := 51) rfl <|
      VP.ini (y' := mX0_init) (pc2 := 54) (ac2 := m * 4) (av2 := m * 617) rfl (by show _ - 3 = _; omega) (by show _ - 610 = _; omega) (by decide +kernel) okX0_init ⟨by decide, by decide⟩ (Or.inr ⟨_, zn_mem 5 rfl⟩) ivX0_init rfl rfl (Nat.le_of_ble_eq_true rfl) (by show 3 ≤ _; omega) (by show 610 ≤ _; omega) (fun Q' k' => CX0 (by omega) (al_a1 i (by omega)) (al_a2 i (by omega)) (al_a3 i (by omega)) Q' k') <|
      VP.aastore (by decide +kernel) zSh_18 zSh_24 zc_0 (by decide) (by omega) (by show (i : Int) < ((6 : Nat) : Int); omega) <| VP.pcx (b := 55) rfl <|
      VP.iinc (i := 1) (d := 1) (by decide +kernel) rfl ⟨by omega, by omega⟩ <| VP.lsx (ls' := [some (.inr (some (17, 0))), some (.inl ((i + 1 : Nat) : Int))]) rfl <| VP.pcx (b := 58) rfl <|
      VP.goto (off := -22) (tgt := 36) (by decide +kernel) (by decide) <| VP.nx (show 87 + i * 4 + 4 = 87 + (i + 1) * 4 by omega) <| ih (i + 1) (by omega))
def sIV : Nat → zI → zI
  | 0, hi => hi
  | i + 1, hi => sIX9 (zclr (sIV i hi) 36 i) i
def sRV : Nat → zR → zR
  | 0, hr => hr
  | i + 1, hr => zupR (sRX9 (zclrR (sRV i hr) 36 i) i) 29 0 i (some (36, i))
theorem sRV_k {hr : zR} {s : Int} : ∀ i : Nat, sRV i hr 1 0 s = hr 1 0 s
  | 0 => rfl
  | i + 1 => (show sRV (i + 1) hr 1 0 s = sRV i hr 1 0 s from rfl).trans (sRV_k i)
theorem LV {hi : zI} {hr : zR} {Q : zQ} (hg : hr 1 0 5 = some (29, 0)) (k : VP mX11_init 122 [some (.inr (some (1, 0))), some (.inl 6)] [] 130 0 0 (sIV 6 hi) (sRV 6 hr) Q) : ∀ m i : Nat, i + m = 6 → VP mX11_init 97 [some (.inr (some (1, 0))), some (.inl (i : Int))] [] (124 + i) (m * 1) (m * 6) (sIV i hi) (sRV i hr) Q := by
  intro m
  induction m with
  | zero =>
    intro i hi0
    have e : i = 6 := by omega
    subst e
    exact VP.iload_n (i := 1) (by decide +kernel) rfl <| VP.pcx (b := 98) rfl <|
      VP.bipush (x := 6) (by decide +kernel) ⟨by decide +kernel, by decide⟩ <| VP.pcx (b := 100) rfl <|
      VP.icmp_ge (off := 22) (tgt := 122) (by decide +kernel) (by decide) (fun _ => k) (fun h => absurd h (by decide))
  | succ m ih =>
    intro i hi0
    exact VP.iload_n (i := 1) (by decide +kernel) rfl <| VP.pcx (b := 98) rfl <|
      VP.bipush (x := 6) (by decide +kernel) ⟨by decide +kernel, by decide⟩ <| VP.pcx (b := 100) rfl <|
      VP.icmp_ge (off := 22) (tgt := 122) (by decide +kernel) (by decide) (fun h => absurd h (by omega)) (fun _ => VP.pcx (b := 103) rfl <|
      VP.aload_n (i := 0) (by decide +kernel) rfl <| VP.pcx (b := 104) rfl <|
      VP.getR (i := 5) (o := some (29, 0)) (by decide +kernel) zc_11 zSh_1 (by decide) rfl lf_X11_46 ((sRV_k i).trans hg) <| VP.pcx (b := 107) rfl <|
      VP.iload_n (i := 1) (by decide +kernel) rfl <| VP.pcx (b := 108) rfl <|
      VP.nw (pc2 := 111) (n2 := 124 + i + 1) (ac2 := m * 1 + 0) (av2 := m * 6 + 0) rfl rfl (by omega) (by omega) (by decide +kernel) zc_9 lc_X11_44 (zlt (by omega)) (al_v i (by omega)) zSh_36 (by omega) (by omega) <|
      VP.dup (by decide +kernel) <| VP.pcx (b := 112) rfl <|
      VP.ini (y' := mX9_init) (pc2 := 115) (ac2 := m * 1) (av2 := m * 6) rfl (by show _ - 0 = _; omega) (by show _ - 0 = _; omega) (by decide +kernel) okX9_init ⟨by decide, by decide⟩ (Or.inr ⟨_, zn_mem 8 rfl⟩) ivX9_init rfl rfl (Nat.le_of_ble_eq_true rfl) (by show 0 ≤ _; omega) (by show 0 ≤ _; omega) (fun Q' k' => CX9 (by omega) Q' k') <|
      VP.aastore (by decide +kernel) zSh_29 zSh_36 zc_9 (by decide) (by omega) (by show (i : Int) < ((6 : Nat) : Int); omega) <| VP.pcx (b := 116) rfl <|
      VP.iinc (i := 1) (d := 1) (by decide +kernel) rfl ⟨by omega, by omega⟩ <| VP.lsx (ls' := [some (.inr (some (1, 0))), some (.inl ((i + 1 : Nat) : Int))]) rfl <| VP.pcx (b := 119) rfl <|
      VP.goto (off := -22) (tgt := 97) (by decide +kernel) (by decide) <| VP.nx (show 124 + i + 1 = 124 + i + 1 by omega) <| ih (i + 1) (by omega))
def sIX5b (hi : zI) : zI := (zup (zclr (zclr hi 8 0) 9 0) 7 0 2 1)
def sRX5b (hr : zR) : zR := (zupR (zclrR (zupR (zclrR hr 8 0) 7 0 0 (some (8, 0))) 9 0) 7 0 1 (some (9, 0)))
theorem CX5 {hi : zI} {hr : zR} (Q : zQ) (k : Q none 73 (sIM 64 (sIX5b hi)) (sRM 64 (sRX5b hr))) : VPm mX5_init [.inr (some (7, 0))] 7 hi hr Q :=
  VPm.to (ls := [some (.inr (some (7, 0))), none]) rfl rfl rfl <|
  VP.aload_n (i := 0) (by decide +kernel) rfl <| VP.pcx (b := 1) rfl <|
  VP.objInit (by decide +kernel) lm_X5_1 l_oi l_oc ⟨by decide, by decide⟩ (by decide) <| VP.pcx (b := 4) rfl <|
  VP.aload_n (i := 0) (by decide +kernel) rfl <| VP.pcx (b := 5) rfl <|
  VP.bipush (x := 64) (by decide +kernel) ⟨by decide +kernel, by decide⟩ <| VP.pcx (b := 7) rfl <|
  VP.nar (pc2 := 9) (n2 := 8) (ac2 := 65) (av2 := 512) (len := 64) (atype := .int) rfl rfl rfl rfl rfl (by decide +kernel) l_acI (Or.inl ⟨rfl, rfl⟩) (zlt (by decide)) (by decide +kernel) zSh_8 (by decide) (by decide) (by decide) <|
  VP.putR (i := 0) (by decide +kernel) zc_5 zSh_7 (by decide) rfl lf_X5_9 (Or.inr ⟨rfl, rfl, rfl⟩) (Or.inr ⟨_, rfl⟩) <| VP.pcx (b := 12) rfl <|
  VP.aload_n (i := 0) (by decide +kernel) rfl <| VP.pcx (b := 13) rfl <|
  VP.bipush (x := 64) (by decide +kernel) ⟨by decide +kernel, by decide⟩ <| VP.pcx (b := 15) rfl <|
  VP.anar (pc2 := 18) (n2 := 9) (ac2 := 64) (av2 := 448) (len := 64) rfl rfl rfl rfl rfl (by decide +kernel) lc_X5_13 (zn_mem 10 rfl) (by decide) (zlt (by decide)) (by decide +kernel) zSh_9 (by decide) (by decide) (by decide) <|
  VP.putR (i := 1) (by decide +kernel) zc_5 zSh_7 (by decide) rfl lf_X5_15 (Or.inr ⟨rfl, rfl, rfl⟩) (Or.inr ⟨_, rfl⟩) <| VP.pcx (b := 21) rfl <|
  VP.aload_n (i := 0) (by decide +kernel) rfl <| VP.pcx (b := 22) rfl <|
  VP.iconst (x := 1) (by decide +kernel) (by decide) <| VP.pcx (b := 23) rfl <|
  VP.putI (i := 2) (by decide +kernel) zc_5 zSh_7 (by decide) rfl lf_X5_19 rfl (z_int _) <| VP.pcx (b := 26) rfl <|
  VP.iconst (x := 0) (by decide +kernel) (by decide) <| VP.pcx (b := 27) rfl <|
  VP.istore_n (i := 1) (by decide +kernel) (by decide) <| VP.lsx (ls' := [some (.inr (some (7, 0))), some (.inl 0)]) rfl <| VP.pcx (b := 28) rfl <|
  VP.nx (show 9 = 9 + 0 * 1 by decide) <| (LM (hi := sIX5b hi) (hr := sRX5b hr) rfl k 64 0 rfl)
def sIX1b (hi : zI) : zI := (zup (zup (sIX4 (zclr (zclr hi 18 0) 19 0)) 17 0 3 (-1)) 17 0 4 (-1))
def sRX1b (hr : zR) : zR := (zupR (sRX4 (zclrR (zupR (zclrR hr 18 0) 17 0 0 (some (18, 0))) 19 0)) 17 0 1 (some (19, 0)))
theorem CX1 {hi : zI} {hr : zR} (Q : zQ) (k : Q none 111 (sIA 6 (sIX1b hi)) (sRA 6 (sRX1b hr))) : VPm mX1_init [.inr (some (17, 0))] 80 hi hr Q :=
  VPm.to (ls := [some (.inr (some (17, 0))), none]) rfl rfl rfl <|
  VP.aload_n (i := 0) (by decide +kernel) rfl <| VP.pcx (b := 1) rfl <|
  VP.objInit (by decide +kernel) lm_X1_3 l_oi l_oc ⟨by decide, by decide⟩ (by decide) <| VP.pcx (b := 4) rfl <|
  VP.aload_n (i := 0) (by decide +kernel) rfl <| VP.pcx (b := 5) rfl <|
  VP.bipush (x := 6) (by decide +kernel) ⟨by decide +kernel, by decide⟩ <| VP.pcx (b := 7) rfl <|
  VP.anar (pc2 := 10) (n2 := 81) (ac2 := 30) (av2 := 8596) (len := 6) rfl rfl rfl rfl rfl (by decide +kernel) lc_X1_9 (zn_mem 9 rfl) (by decide) (zlt (by decide)) (by decide +kernel) zSh_18 (by decide) (by decide) (by decide) <|
  VP.putR (i := 0) (by decide +kernel) zc_1 zSh_17 (by decide) rfl lf_X1_11 (Or.inr ⟨rfl, rfl, rfl⟩) (Or.inr ⟨_, rfl⟩) <| VP.pcx (b := 13) rfl <|
  VP.aload_n (i := 0) (by decide +kernel) rfl <| VP.pcx (b := 14) rfl <|
  VP.nw (pc2 := 17) (n2 := 82) (ac2 := 29) (av2 := 8582) rfl rfl rfl rfl (by decide +kernel) zc_4 lc_X1_17 (zlt (by decide)) (by decide +kernel) zSh_19 (by decide) (by decide) <|
  VP.dup (by decide +kernel) <| VP.pcx (b := 18) rfl <|
  VP.ini (y' := mX4_init) (pc2 := 21) (ac2 := 24) (av2 := 3702) rfl rfl rfl (by decide +kernel) okX4_init ⟨by decide, by decide⟩ (Or.inr ⟨_, zn_mem 4 rfl⟩) ivX4_init rfl rfl (Nat.le_of_ble_eq_true rfl) (by decide) (by decide) (fun Q' k' => CX4 (by decide) (by decide +kernel) (by decide +kernel) (by decide +kernel) (by decide +kernel) (by decide +kernel) Q' k') <|
  VP.putR (i := 1) (by decide +kernel) zc_1 zSh_17 (by decide) rfl lf_X1_20 (Or.inr ⟨rfl, rfl, rfl⟩) (Or.inl ⟨_, rfl⟩) <| VP.pcx (b := 24) rfl <|
  VP.aload_n (i := 0) (by decide +kernel) rfl <| VP.pcx (b := 25) rfl <|
  VP.iconst (x := (-1)) (by decide +kernel) (by decide) <| VP.pcx (b := 26) rfl <|
  VP.putI (i := 3) (by decide +kernel) zc_1 zSh_17 (by decide) rfl lf_X1_24 rfl (z_int _) <| VP.pcx (b := 29) rfl <|
  VP.aload_n (i := 0) (by decide +kernel) rfl <| VP.pcx (b := 30) rfl <|
  VP.iconst (x := (-1)) (by decide +kernel) (by decide) <| VP.pcx (b := 31) rfl <|
  VP.putI (i := 4) (by decide +kernel) zc_1 zSh_17 (by decide) rfl lf_X1_28 rfl (z_int _) <| VP.pcx (b := 34) rfl <|
  VP.iconst (x := 0) (by decide +kernel) (by decide) <| VP.pcx (b := 35) rfl <|
  VP.istore_n (i := 1) (by decide +kernel) (by decide) <| VP.lsx (ls' := [some (.inr (some (17, 0))), some (.inl 0)]) rfl <| VP.pcx (b := 36) rfl <|
  VP.nx (show 87 = 87 + 0 * 4 by decide) <| (LA (hi := sIX1b hi) (hr := sRX1b hr) rfl k 6 0 rfl)
def sIX11b (hi : zI) : zI := (zup (sIX10 (zclr (sIX10 (zclr (zclr (sIA 6 (sIX1b (zclr (sIX8 (zclr (sIM 64 (sIX5b (zclr (sIX2 (zclr (sIX7 (zclr hi 2 0)) 4 0)) 7 0))) 11 0)) 17 0))) 29 0) 30 0) 0) 30 1) 1) 1 0 8 (-1))
def sRX11b (hr : zR) : zR := (zupR (sRX10 (zclrR (zupR (sRX10 (zclrR (zupR (zclrR (zupR (sRA 6 (sRX1b (zclrR (zupR (sRX8 (zclrR (zupR (sRM 64 (sRX5b (zclrR (zupR (sRX2 (zclrR (zupR (sRX7 (zclrR hr 2 0)) 1 0 0 (some (2, 0))) 4 0)) 1 0 1 (some (4, 0))) 7 0))) 1 0 2 (some (7, 0))) 11 0)) 1 0 3 (some (11, 0))) 17 0))) 1 0 4 (some (17, 0))) 29 0) 1 0 5 (some (29, 0))) 30 0) 0) 1 0 6 (some (30, 0))) 30 1) 1) 1 0 7 (some (30, 1)))
theorem CX11 {hi : zI} {hr : zR} (Q : zQ) (k : VP mX11_init 122 [some (.inr (some (1, 0))), some (.inl 6)] [] 130 0 0 (sIV 6 (sIX11b hi)) (sRV 6 (sRX11b hr)) Q) : VPm mX11_init [.inr (some (1, 0))] 1 hi hr Q :=
  VPm.to (ls := [some (.inr (some (1, 0))), none]) rfl rfl rfl <|
  VP.aload_n (i := 0) (by decide +kernel) rfl <| VP.pcx (b := 1) rfl <|
  VP.objInit (by decide +kernel) lm_X11_3 l_oi l_oc ⟨by decide, by decide⟩ (by decide) <| VP.pcx (b := 4) rfl <|
  VP.aload_n (i := 0) (by decide +kernel) rfl <| VP.pcx (b := 5) rfl <|
  VP.nw (pc2 := 8) (n2 := 2) (ac2 := 128) (av2 := 13578) rfl rfl rfl rfl (by decide +kernel) zc_7 lc_X11_9 (zlt (by decide)) (by decide +kernel) zSh_2 (by decide) (by decide) <|
  VP.dup (by decide +kernel) <| VP.pcx (b := 9) rfl <|
  VP.ini (y' := mX7_init) (pc2 := 12) (ac2 := 127) (av2 := 13178) rfl rfl rfl (by decide +kernel) okX7_init ⟨by decide, by decide⟩ (Or.inr ⟨_, zn_mem 0 rfl⟩) ivX7_init rfl rfl (Nat.le_of_ble_eq_true rfl) (by decide) (by decide) (fun Q' k' => CX7 (by decide) (by decide +kernel) Q' k') <|
  VP.putR (i := 0) (by decide +kernel) zc_11 zSh_1 (by decide) rfl lf_X11_12 (Or.inr ⟨rfl, rfl, rfl⟩) (Or.inl ⟨_, rfl⟩) <| VP.pcx (b := 15) rfl <|
  VP.aload_n (i := 0) (by decide +kernel) rfl <| VP.pcx (b := 16) rfl <|
  VP.nw (pc2 := 19) (n2 := 4) (ac2 := 126) (av2 := 13173) rfl rfl rfl rfl (by decide +kernel) zc_2 lc_X11_16 (zlt (by decide)) (by decide +kernel) zSh_4 (by decide) (by decide) <|
  VP.dup (by decide +kernel) <| VP.pcx (b := 20) rfl <|
  VP.ini (y' := mX2_init) (pc2 := 23) (ac2 := 124) (av2 := 12661) rfl rfl rfl (by decide +kernel) okX2_init ⟨by decide, by decide⟩ (Or.inr ⟨_, zn_mem 1 rfl⟩) ivX2_init rfl rfl (Nat.le_of_ble_eq_true rfl) (by decide) (by decide) (fun Q' k' => CX2 (by decide) (by decide +kernel) (by decide +kernel) Q' k') <|
  VP.putR (i := 1) (by decide +kernel) zc_11 zSh_1 (by decide) rfl lf_X11_19 (Or.inr ⟨rfl, rfl, rfl⟩) (Or.inl ⟨_, rfl⟩) <| VP.pcx (b := 26) rfl <|
  VP.aload_n (i := 0) (by decide +kernel) rfl <| VP.pcx (b := 27) rfl <|
  VP.nw (pc2 := 30) (n2 := 7) (ac2 := 123) (av2 := 12655) rfl rfl rfl rfl (by decide +kernel) zc_5 lc_X11_23 (zlt (by decide)) (by decide +kernel) zSh_7 (by decide) (by decide) <|
  VP.dup (by decide +kernel) <| VP.pcx (b := 31) rfl <|
  VP.ini (y' := mX5_init) (pc2 := 34) (ac2 := 57) (av2 := 12079) rfl rfl rfl (by decide +kernel) okX5_init ⟨by decide, by decide⟩ (Or.inl lm_X11_25) ivX5_init rfl rfl (Nat.le_of_ble_eq_true rfl) (by decide) (by decide) (fun Q' k' => CX5 Q' k') <|
  VP.putR (i := 2) (by decide +kernel) zc_11 zSh_1 (by decide) rfl lf_X11_26 (Or.inr ⟨rfl, rfl, rfl⟩) (Or.inl ⟨_, rfl⟩) <| VP.pcx (b := 37) rfl <|
  VP.aload_n (i := 0) (by decide +kernel) rfl <| VP.pcx (b := 38) rfl <|
  VP.nw (pc2 := 41) (n2 := 74) (ac2 := 56) (av2 := 12071) rfl rfl rfl rfl (by decide +kernel) zc_8 lc_X11_30 (zlt (by decide)) (by decide +kernel) zSh_11 (by decide) (by decide) <|
  VP.dup (by decide +kernel) <| VP.pcx (b := 42) rfl <|
  VP.ini (y' := mX8_init) (pc2 := 45) (ac2 := 51) (av2 := 11771) rfl rfl rfl (by decide +kernel) okX8_init ⟨by decide, by decide⟩ (Or.inr ⟨_, zn_mem 3 rfl⟩) ivX8_init rfl rfl (Nat.le_of_ble_eq_true rfl) (by decide) (by decide) (fun Q' k' => CX8 (by decide) (by decide +kernel) (by decide +kernel) (by decide +kernel) (by decide +kernel) (by decide +kernel) Q' k') <|
  VP.putR (i := 3) (by decide +kernel) zc_11 zSh_1 (by decide) rfl lf_X11_33 (Or.inr ⟨rfl, rfl, rfl⟩) (Or.inl ⟨_, rfl⟩) <| VP.pcx (b := 48) rfl <|
  VP.aload_n (i := 0) (by decide +kernel) rfl <| VP.pcx (b := 49) rfl <|
  VP.nw (pc2 := 52) (n2 := 80) (ac2 := 50) (av2 := 11766) rfl rfl rfl rfl (by decide +kernel) zc_1 lc_X11_37 (zlt (by decide)) (by decide +kernel) zSh_17 (by decide) (by decide) <|
  VP.dup (by decide +kernel) <| VP.pcx (b := 53) rfl <|
  VP.ini (y' := mX1_init) (pc2 := 56) (ac2 := 19) (av2 := 3164) rfl rfl rfl (by decide +kernel) okX1_init ⟨by decide, by decide⟩ (Or.inl lm_X11_39) ivX1_init rfl rfl (Nat.le_of_ble_eq_true rfl) (by decide) (by decide) (fun Q' k' => CX1 Q' k') <|
  VP.putR (i := 4) (by decide +kernel) zc_11 zSh_1 (by decide) rfl lf_X11_40 (Or.inr ⟨rfl, rfl, rfl⟩) (Or.inl ⟨_, rfl⟩) <| VP.pcx (b := 59) rfl <|
  VP.aload_n (i := 0) (by decide +kernel) rfl <| VP.pcx (b := 60) rfl <|
  VP.bipush (x := 6) (by decide +kernel) ⟨by decide +kernel, by decide⟩ <| VP.pcx (b := 62) rfl <|
  VP.anar (pc2 := 65) (n2 := 112) (ac2 := 18) (av2 := 3158) (len := 6) rfl rfl rfl rfl rfl (by decide +kernel) lc_X11_44 (zn_mem 11 rfl) (by decide) (zlt (by decide)) (by decide +kernel) zSh_29 (by decide) (by decide) (by decide) <|
  VP.putR (i := 5) (by decide +kernel) zc_11 zSh_1 (by decide) rfl lf_X11_46 (Or.inr ⟨rfl, rfl, rfl⟩) (Or.inr ⟨_, rfl⟩) <| VP.pcx (b := 68) rfl <|
  VP.aload_n (i := 0) (by decide +kernel) rfl <| VP.pcx (b := 69) rfl <|
  VP.nw (pc2 := 72) (n2 := 113) (ac2 := 17) (av2 := 3149) rfl rfl rfl rfl (by decide +kernel) zc_10 lc_X11_50 (zlt (by decide)) (by decide +kernel) zSh_30 (by decide) (by decide) <|
  VP.dup (by decide +kernel) <| VP.pcx (b := 73) rfl <|
  VP.ini (y' := mX10_init) (pc2 := 76) (ac2 := 12) (av2 := 1597) rfl rfl rfl (by decide +kernel) okX10_init ⟨by decide, by decide⟩ (Or.inr ⟨_, zn_mem 7 rfl⟩) ivX10_init rfl rfl (Nat.le_of_ble_eq_true rfl) (by decide) (by decide) (fun Q' k' => CX10 (by decide) (by decide +kernel) (by decide +kernel) (by decide +kernel) (by decide +kernel) (by decide +kernel) Q' k') <|
  VP.putR (i := 6) (by decide +kernel) zc_11 zSh_1 (by decide) rfl lf_X11_53 (Or.inl rfl) (Or.inl ⟨_, rfl⟩) <| VP.pcx (b := 79) rfl <|
  VP.aload_n (i := 0) (by decide +kernel) rfl <| VP.pcx (b := 80) rfl <|
  VP.nw (pc2 := 83) (n2 := 119) (ac2 := 11) (av2 := 1588) rfl rfl rfl rfl (by decide +kernel) zc_10 lc_X11_50 (zlt (by decide)) (by decide +kernel) zSh_30 (by decide) (by decide) <|
  VP.dup (by decide +kernel) <| VP.pcx (b := 84) rfl <|
  VP.ini (y' := mX10_init) (pc2 := 87) (ac2 := 6) (av2 := 36) rfl rfl rfl (by decide +kernel) okX10_init ⟨by decide, by decide⟩ (Or.inr ⟨_, zn_mem 7 rfl⟩) ivX10_init rfl rfl (Nat.le_of_ble_eq_true rfl) (by decide) (by decide) (fun Q' k' => CX10 (by decide) (by decide +kernel) (by decide +kernel) (by decide +kernel) (by decide +kernel) (by decide +kernel) Q' k') <|
  VP.putR (i := 7) (by decide +kernel) zc_11 zSh_1 (by decide) rfl lf_X11_57 (Or.inl rfl) (Or.inl ⟨_, rfl⟩) <| VP.pcx (b := 90) rfl <|
  VP.aload_n (i := 0) (by decide +kernel) rfl <| VP.pcx (b := 91) rfl <|
  VP.iconst (x := (-1)) (by decide +kernel) (by decide) <| VP.pcx (b := 92) rfl <|
  VP.putI (i := 8) (by decide +kernel) zc_11 zSh_1 (by decide) rfl lf_X11_60 rfl (z_int _) <| VP.pcx (b := 95) rfl <|
  VP.iconst (x := 0) (by decide +kernel) (by decide) <| VP.pcx (b := 96) rfl <|
  VP.istore_n (i := 1) (by decide +kernel) (by decide) <| VP.lsx (ls' := [some (.inr (some (1, 0))), some (.inl 0)]) rfl <| VP.pcx (b := 97) rfl <|
  VP.nx (show 124 = 124 + 0 * 1 by decide) <| (LV (hi := sIX11b hi) (hr := sRX11b hr) rfl k 6 0 rfl)
