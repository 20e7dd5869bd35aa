def LX (p : Program) (s : State) (m : MethodId) (meth : Method) (c : Code) (b L : Nat) (xs : Nat → Int32) (D : va_G) (cy : Nat → ClassId) : Prop := lw_At p s m meth c b L xs ∧ (∀ w ∈ zTb, w.before #[Value.ref b] s = true) ∧ va_K D vwCl (zTys cy) s ∧ L ≤ 3072
def LG (s : State) (D : va_G) (cy : Nat → ClassId) (n : Nat) (hi : zI) (hr : zR) (H : Heap) (locs : List Loc) (cells : Nat) : Prop := zokH n hi hr ∧ n ≤ zTOT ∧ n = cells ∧ va_P D vwCl (zW s.heap.size cy n hi hr) H ∧ va_S (fun q => s.heap.size ≤ q) s.heap H locs
section LAW
variable {p : Program} {l : Launch} {e : Env} {s : State} {m : MethodId} {below : List Frame} {meth : Method} {c : Code} {b L : Nat} {xs : Nat → Int32} {D : va_G} {cy : Nat → ClassId} {Z : State → Prop} {pc n cells slots : Nat} {hi : zI} {hr : zR} {H : Heap} {locs : List Loc} {lsr : Array Slot}
theorem lawRun {y' : zM} {st : List zV} {st0 : List Value} {a : Array Value} {Qn : zQ} (G : LG s D cy n hi hr H locs cells) (hsz : H.size = s.heap.size + n)
    (hrun : va_Run p l e room_1 s m #[Value.ref b] below meth c H locs cells slots (zMc y') (zMs y') (F0 m pc lsr st0) (st.map (zv s.heap.size)) (zQc s.heap.size cy D (zMc y') Qn a) (fun q => s.heap.size ≤ q))
    (nx : ∀ r n' hi' hr' H' locs', Qn r n' hi' hr' → (∀ v, r = some v → zok n' v) → n ≤ n' → LG s D cy n' hi' hr' H' locs' (cells + zMc y') → W p l e room_1 s m #[Value.ref b] below meth c H' locs' (cells + zMc y') (slots + zMs y') Z (F0 m (pc + 3) lsr ((r.toList ++ st).map (zv s.heap.size)))) :
    W p l e room_1 s m #[Value.ref b] below meth c H locs cells slots Z (F0 m pc lsr st0) := by
  obtain ⟨g1, g2, g3, g4, g6⟩ := G
  intro T hT X
  obtain ⟨v, st₀, t, T', L', h0, X', hL, e1, e2, ⟨⟨r, n', hi', hr', hv, hq, hok, hH, hn', hsz', hP'⟩, hz, hk⟩, go⟩ := hrun T hT X
  cases hv
  rw [h0] at hz hk hsz'
  have hnn : n ≤ n' := by omega
  have K := nx r n' hi' hr' T'.heap (locs ++ L') hq hok hnn ⟨hH, hn', by omega, by rw [e1]; exact hP', ⟨Nat.le_trans g6.1 (by rw [e1]; exact hz), fun q h1 h2 => by rw [e1, hk q (Nat.lt_of_lt_of_le h1 g6.1) h2]; exact g6.2.1 q h1 h2, fun q hq => by
      rcases List.mem_append.mp hq with h | h
      · exact g6.2.2 q h
      · exact hL q h⟩⟩
  obtain ⟨t2, a1, b1⟩ := K T' rfl X'
  refine ⟨t2, go t2 ?_, b1⟩
  have e3 : (r.toList ++ st).map (zv s.heap.size) = (r.map (zv s.heap.size)).toList ++ st.map (zv s.heap.size) := by cases r <;> rfl
  rw [e3] at a1
  exact a1
theorem LG.size (G : LG s D cy n hi hr H locs cells) (h : H.size ≤ s.heap.size + cells) : H.size = s.heap.size + n := zSize (by rw [G.2.2.1]) G.2.2.2.1 (Nat.le_refl _) G.2.2.2.2 h
theorem law_call {y' : zM} {k cc N index : Nat} {j : Int} {T : u_T} {ty : Nat → FieldType} {vs st : List zV} {Qn : zP} (X : LX p s m meth c b L xs D cy) (G : LG s D cy n hi hr H locs cells) (hls : lsr.size = 4) (hc : cells ≤ 600000) (hs : slots ≤ 7302250) (Sv : ∀ v ∈ vs, zok n v) (Sr : zval n (k, j)) (hd : decode code pc = .ok (.invokevirtual index, 3)) (hO : zOK y' vs.length ((zsl vs).length + 1))
    (hR : zFr y' + 1 ≤ 10 ∧ 8 + (zMx y' + 11) + zLo y' ≤ 398) (hl : Cond.methodLink RL index (zNm y') ∈ zTb) (hin : Cond.instanceMethod (zNm y') ∈ zTb ∧ Cond.selects (zNm y').cls (zNm y') (zNm y') ∈ zTb) (hk : zSh k = .inl cc) (hz : zCl cc (zNm y').cls T N ty) (hst : zw st ≤ 8) (hmc : zMc y' = 0 ∧ zMs y' = 0)
    (kk : WPm y' (.inr (some (k, j)) :: vs) hi hr Qn)
    (nx : ∀ r hi' hr' H' locs', Qn r hi' hr' → (∀ v, r = some v → zok n v) → LG s D cy n hi' hr' H' locs' cells → W p l e room_1 s m #[Value.ref b] below meth c H' locs' cells slots Z (F0 m (pc + 3) lsr ((r.toList ++ st).map (zv s.heap.size)))) :
    W p l e room_1 s m #[Value.ref b] below meth c H locs cells slots Z (F0 m pc lsr ((vs.reverse ++ .inr (some (k, j)) :: st).map (zv s.heap.size))) := by
  refine zSized (fun hs9 => ?_)
  have hsz := G.size hs9
  obtain ⟨o1, o2, o3, o4, o5, o6, o7⟩ := hO
  obtain ⟨⟨x1, x2, x3, x4, x5, x6, x7, x8, x9, x10⟩, hts, hK, hL⟩ := X
  have hM := (kk n).met o1 o5 (zok_cons (v := .inr (some (k, j))) Sr Sv) G.1 G.2.1 l D cy s.heap.size
  have cb : CallB room_1 s #[Value.ref b] RL index (zNm y') (zBy y') (zMx y') (zRt y') (zWs y') (zRm y') (zMc y') (zMs y') vs.length := callB_of vs.length (fun w h => hts w (List.mem_append_left _ h)) (z_good y' o6) rfl rfl rfl (hts _ o7) (hts _ hl) ⟨o2, o3, o4⟩ hR
  have he := zW_at (B := s.heap.size) (cy := cy) (hi := hi) (hr := hr) Sr
  rw [zE_o hk] at he
  have hrun := va_runV (As := vs.map (zv s.heap.size)) (rest := st.map (zv s.heap.size)) (cells := cells) (slots := slots) (H := H) (locs := locs) (e := e) (below := below) (meth := meth) (g := F0 m pc lsr ((vs.map (zv s.heap.size)).reverse ++ .ref (zA s.heap.size (k, j)) :: st.map (zv s.heap.size))) (nL := 4) (C := (zNm y').cls) (b := zA s.heap.size (k, j)) ⟨x1, x2, x4, x5, hts⟩ hM ⟨cb, hts _ hin.1, hts _ hin.2⟩ ⟨z_blind _ _ _ _ _ _ _, va_recv hK G.2.2.2.1 hz.1 he, fun U hU hW => ⟨rfl, by rw [hU, hsz], by rw [hU]; exact G.2.2.2.1, va_K.moved hW.alike hK, (zXt.of hts).warm hW⟩⟩ rfl (by simp) hls rfl (lv_room (by rw [z_cats]; exact hst)) hd ⟨by rw [hmc.1]; exact hc, by rw [hmc.2]; exact hs⟩
  have es : (vs.reverse ++ .inr (some (k, j)) :: st).map (zv s.heap.size) = (vs.map (zv s.heap.size)).reverse ++ .ref (zA s.heap.size (k, j)) :: st.map (zv s.heap.size) := by simp [List.map_append]; rfl
  rw [es]
  refine lawRun (Z := Z) G hsz hrun (fun r n' hi' hr' H' locs' q hok hnn G' => ?_)
  obtain ⟨rfl, q⟩ := q
  have K := nx r hi' hr' H' locs' q hok (by rw [hmc.1] at G'; exact G')
  rw [hmc.1, hmc.2]
  exact K
theorem law_ini {y' : zM} {q : Nat × Int} {index n2 : Nat} {st : List zV} {hi2 : zI} {hr2 : zR} (X : LX p s m meth c b L xs D cy) (G : LG s D cy n hi hr H locs cells) (hls : lsr.size = 4) (hc : cells + zMc y' ≤ 600000) (hs : slots + zMs y' ≤ 7302250) (Sr : zval n q) (hd : decode code pc = .ok (.invokespecial index, 3)) (hO : zOK y' 0 1)
    (hR : zFr y' + 1 ≤ 10 ∧ 8 + (zMx y' + 11) + zLo y' ≤ 398) (hl : Cond.methodLink RL index (zNm y') ∈ zTb) (hin : Cond.instanceMethod (zNm y') ∈ zTb) (hnm : (zNm y').name = "<init>") (hrt : zRt y' = none) (hst : zw st ≤ 8)
    (kk : ∀ Q : zQ, Q none n2 hi2 hr2 → VPm y' [.inr (some q)] n hi hr Q)
    (nx : ∀ H' locs', LG s D cy n2 hi2 hr2 H' locs' (cells + zMc y') → W p l e room_1 s m #[Value.ref b] below meth c H' locs' (cells + zMc y') (slots + zMs y') Z (F0 m (pc + 3) lsr (st.map (zv s.heap.size)))) :
    W p l e room_1 s m #[Value.ref b] below meth c H locs cells slots Z (F0 m pc lsr (.ref (zA s.heap.size q) :: st.map (zv s.heap.size))) := by
  refine zSized (fun hs9 => ?_)
  have hsz := G.size hs9
  obtain ⟨o1, o2, o3, o4, o5, o6, o7⟩ := hO
  obtain ⟨⟨x1, x2, x3, x4, x5, x6, x7, x8, x9, x10⟩, hts, hK, hL⟩ := X
  have hM := (kk (fun r n' hi' hr' => r = none ∧ n' = n2 ∧ hi' = hi2 ∧ hr' = hr2) ⟨rfl, rfl, rfl, rfl⟩).met o1 o5 (zok_cons (v := .inr (some q)) Sr (fun v h => by cases h)) G.1 G.2.1 l D cy s.heap.size
  have ow : zWs y' = Cond.code (zNm y') (zBy y') (zMx y') none :: zTg := by rw [zWs, hrt]
  have cb : CallB room_1 s #[Value.ref b] RL index (zNm y') (zBy y') (zMx y') none (zWs y') (zRm y') (zMc y') (zMs y') 0 := callB_of 0 (fun w h => hts w (List.mem_append_left _ h)) (z_good y' o6) ow rfl rfl (hts _ o7) (hts _ hl) ⟨o2, o3, o4⟩ hR
  have hpre : PreS s H (va_Pc (([.inr (some q)] : List zV).map (zv s.heap.size)) (zB0 D cy s.heap.size n hi hr)) (.ref (zA s.heap.size q) :: []) := ⟨z_blind _ _ _ _ _ _ _, fun U hU hW => ⟨rfl, by rw [hU, hsz], by rw [hU]; exact G.2.2.2.1, va_K.moved hW.alike hK, (zXt.of hts).warm hW⟩⟩
  have hrun := va_runI (As := []) (rest := st.map (zv s.heap.size)) (cells := cells) (slots := slots) (H := H) (locs := locs) (e := e) (below := below) (meth := meth) (g := F0 m pc lsr (.ref (zA s.heap.size q) :: st.map (zv s.heap.size))) (nL := 4) (b := zA s.heap.size q) ⟨x1, x2, x4, x5, hts⟩ hM ⟨cb, hnm, hts _ hin⟩ hpre rfl rfl hls rfl (lv_room (by rw [z_cats]; exact hst)) hd ⟨hc, hs⟩
  refine lawRun (Z := Z) G hsz hrun (fun r n' hi' hr' H' locs' q hok hnn G' => ?_)
  obtain ⟨rfl, rfl, rfl, rfl⟩ := q
  exact nx H' locs' G'
theorem law_new {k cc N index : Nat} {j : Int} {C : String} {T : u_T} {ty : Nat → FieldType} {st : List Value} (X : LX p s m meth c b L xs D cy) (G : LG s D cy n hi hr H locs cells) (hc : cells + 1 ≤ 600000) (hs : slots + N ≤ 7302250) (hd : decode code pc = .ok (.new index, 3)) (hz : zCl cc C T N ty) (hl : Cond.classLink RL index C ∈ zTb) (hn : n < zTOT) (hq : zAL n = (k, j)) (hk : zSh k = .inl cc)
    (nx : ∀ H', zval (n + 1) (k, j) → LG s D cy (n + 1) (zclr hi k j) (zclrR hr k j) H' locs (cells + 1) → W p l e room_1 s m #[Value.ref b] below meth c H' locs (cells + 1) (slots + N) Z (F0 m (pc + 3) lsr (.ref (zA s.heap.size (k, j)) :: st))) :
    W p l e room_1 s m #[Value.ref b] below meth c H locs cells slots Z (F0 m pc lsr st) := by
  obtain ⟨⟨x1, x2, x3, x4, x5, x6, x7, x8, x9, x10⟩, hts, hK, hL⟩ := X
  obtain ⟨z1, z2, z3, z4, z5, z6, z7, z8⟩ := hz
  obtain ⟨g1, g2, g3, g4, g6⟩ := G
  refine va_new (C := C) (T := T) (N := N) (ci := cc) (fs := zFs s.heap.size (zclr hi k j) (zclrR hr k j) (k, j) cc) x1 x2 hts z3 ty z4 x5 (hts _ hl) (hts _ z7) (hts _ z8) hK g4 zW_D g6 (fun q h => h) z1 ?_ hc hs hd (fun a H1 hP hD hS => ?_)
  · intro i hi0
    rw [z6 i hi0]
    simp only [vp_V, List.getD_eq_getElem?_getD]
    rw [zFs_get (by rw [z2]; exact hi0)]
    show _ = (if zRF cc i = true then va_rf (zf s.heap.size (zclrR hr k j k j (i : Int))) else Value.int (Int32.ofInt (zclr hi k j k j (i : Int))))
    rw [zclr_self, zclrR_self]
    rfl
  · refine zSized (fun hs => ?_)
    have ha := zFresh hP hD (by omega)
    subst ha
    rw [← zE_o (cy := cy) hk, ← zW_push hn hq (fun q' h => zE_clr h)] at hP
    have h1 := zTab n hn
    rw [hq] at h1
    simp only at h1
    have hv : zval (n + 1) (k, j) := ⟨by show zOff k j < n + 1; omega, by show zAL (zOff k j) = _; rw [h1, hq]⟩
    have ea : zA s.heap.size (k, j) = s.heap.size + n := by
      show s.heap.size + zOff k j = _
      rw [h1]
    have K := nx H1 hv ⟨zokH_clr g1, hn, by omega, hP, hS⟩
    rw [ea] at K
    exact K
end LAW
