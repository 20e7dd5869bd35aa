theorem zGoodAll : ∀ w ∈ zTg, goodWord w = true := fun w h => (List.mem_filter.mp h).2
def zXt (U : State) : Prop := ∀ w ∈ zNests, w.before #[] U = true
theorem zXt.warm {s U : State} (hW : s.WarmedH U.vm) (h : zXt s) : zXt U := by
  intro w hw
  have h1 := h w hw
  have h2 : (∃ a i x b, w = .methodLinkNest a i x b) ∨ ∃ C, w = .arrayOver (.object C) := by
    simp only [zNests, List.mem_cons, List.not_mem_nil, or_false] at hw
    rcases hw with h | h | h | h | h | h | h | h | h | h | h | h
    all_goals first | exact Or.inl ⟨_, _, _, _, h⟩ | exact Or.inr ⟨_, h⟩
  rcases h2 with ⟨a, i, x, b, rfl⟩ | ⟨C, rfl⟩
  · exact va_Nw.warmM hW h1
  · exact va_AO.moved hW.alike h1
theorem zXt.use {U : State} (h : zXt U) {A : Array Value} : ∀ w ∈ zNests, w.before A U = true := by
  intro w hw
  have h1 := h w hw
  have h2 : (∃ a i x b, w = .methodLinkNest a i x b) ∨ ∃ C, w = .arrayOver (.object C) := by
    simp only [zNests, List.mem_cons, List.not_mem_nil, or_false] at hw
    rcases hw with h | h | h | h | h | h | h | h | h | h | h | h
    all_goals first | exact Or.inl ⟨_, _, _, _, h⟩ | exact Or.inr ⟨_, h⟩
  rcases h2 with ⟨a, i, x, b, rfl⟩ | ⟨C, rfl⟩
  · exact va_Nw.use rfl h1
  · exact va_AO.use h1
theorem zXt.of {U : State} {A : Array Value} (h : ∀ w ∈ zTb, w.before A U = true) : zXt U := by
  intro w hw
  have h1 := h w (List.mem_append_right _ hw)
  have h2 : (∃ a i x b, w = .methodLinkNest a i x b) ∨ ∃ C, w = .arrayOver (.object C) := by
    simp only [zNests, List.mem_cons, List.not_mem_nil, or_false] at hw
    rcases hw with h | h | h | h | h | h | h | h | h | h | h | h
    all_goals first | exact Or.inl ⟨_, _, _, _, h⟩ | exact Or.inr ⟨_, h⟩
  rcases h2 with ⟨a, i, x, b, rfl⟩ | ⟨C, rfl⟩
  · exact va_Nw.of rfl h1
  · exact va_AO.of h1
def zs1 (v : zV) : List (Option zV) := match zV.un v with
  | .inl x => [some (.inl x)]
  | .inr (.inl o) => [some (.inr o)]
  | .inr (.inr x) => [some (.lo x), none]
/-- the slots that arguments take -/
def zsl (vs : List zV) : List (Option zV) := vs.foldr (fun v t => zs1 v ++ t) []
def zen (y : zM) (vs : List zV) : List (Option zV) := zsl vs ++ List.replicate (zMx y - (zsl vs).length) none
def VPm (y : zM) (vs : List zV) (n : Nat) (hi : zI) (hr : zR) (Q : zQ) : Prop := VP y 0 (zen y vs) [] n (zMc y) (zMs y) hi hr Q
theorem zs1_cs (v : zV) : (zc v = 1 ∧ zs1 v = [some v]) ∨ (zc v = 2 ∧ zs1 v = [some v, none]) := by
  refine zV.cs (P := fun v => (zc v = 1 ∧ zs1 v = [some v]) ∨ (zc v = 2 ∧ zs1 v = [some v, none])) ?_ ?_ ?_ ?_ v
  · exact fun _ => Or.inl ⟨rfl, rfl⟩
  · exact Or.inl ⟨rfl, rfl⟩
  · exact fun _ => Or.inl ⟨rfl, rfl⟩
  · exact fun _ => Or.inr ⟨rfl, rfl⟩
theorem zsl_cons (v : zV) (vs : List zV) : zsl (v :: vs) = zs1 v ++ zsl vs := rfl
theorem lg_sl_len (B : Nat) (vs : List zV) : (lg_sl (vs.map (zv B))).length = (zsl vs).length := by
  induction vs with
  | nil => rfl
  | cons v vs ih =>
    show (lg_sl (zv B v :: vs.map (zv B))).length = _
    unfold lg_sl at ih ⊢
    rw [List.flatMap_cons, zv_cat, List.length_append, ih, zsl_cons, List.length_append]
    rcases zs1_cs v with ⟨h1, h2⟩ | ⟨h1, h2⟩
    · rw [h1, h2]; rfl
    · rw [h1, h2]; rfl
theorem z_args (B : Nat) : ∀ (vs : List zV) (i0 i : Nat) (v : zV), (zsl vs)[i]? = some (some v) → (i0 + i, zv B v) ∈ lv_args i0 (vs.map (zv B)) := by
  intro vs
  induction vs with
  | nil => intro i0 i v h; cases h
  | cons w vs ih =>
    intro i0 i v h
    show _ ∈ lv_args i0 (zv B w :: vs.map (zv B))
    rw [zsl_cons] at h
    rw [lv_args, zv_cat]
    rcases zs1_cs w with ⟨h1, h2⟩ | ⟨h1, h2⟩
    · rw [h2] at h
      rw [h1, if_neg (by decide)]
      cases i with
      | zero =>
        cases h
        exact List.mem_cons_self
      | succ i =>
        refine List.mem_cons_of_mem _ ?_
        have := ih (i0 + 1) i v h
        rw [show i0 + (i + 1) = i0 + 1 + i by omega]
        exact this
    · rw [h2] at h
      rw [h1, if_pos rfl]
      cases i with
      | zero =>
        cases h
        exact List.mem_cons_self
      | succ i =>
        cases i with
        | zero => cases h
        | succ i =>
          refine List.mem_cons_of_mem _ ?_
          have := ih (i0 + 2) i v h
          rw [show i0 + (i + 1 + 1) = i0 + 2 + i by omega]
          exact this
theorem zsl_mem : ∀ {vs : List zV} {i : Nat} {v : zV}, (zsl vs)[i]? = some (some v) → v ∈ vs := by
  intro vs
  induction vs with
  | nil => intro i v h; cases h
  | cons w vs ih =>
    intro i v h
    rw [zsl_cons] at h
    rcases zs1_cs w with ⟨h1, h2⟩ | ⟨h1, h2⟩
    · rw [h2] at h
      cases i with
      | zero => cases h; exact List.mem_cons_self
      | succ i => exact List.mem_cons_of_mem _ (ih h)
    · rw [h2] at h
      cases i with
      | zero => cases h; exact List.mem_cons_self
      | succ i =>
        cases i with
        | zero => cases h
        | succ i => exact List.mem_cons_of_mem _ (ih h)
theorem zen_get {y : zM} {vs : List zV} {i : Nat} {v : zV} (h : (zen y vs)[i]? = some (some v)) : (zsl vs)[i]? = some (some v) := by
  unfold zen at h
  by_cases hi : i < (zsl vs).length
  · rw [List.getElem?_append_left hi] at h
    exact h
  · rw [List.getElem?_append_right (by omega)] at h
    simp [List.getElem?_replicate] at h
/-- a call's ground: heap, classes -/
def zB0 (D : va_G) (cy : Nat → ClassId) (B n : Nat) (hi : zI) (hr : zR) (U : State) : Prop := B + n = U.heap.size ∧ va_P D vwCl (zW B cy n hi hr) U.heap ∧ va_K D vwCl (zTys cy) U ∧ zXt U
theorem VPm.met {y : zM} {vs : List zV} {n : Nat} {hi : zI} {hr : zR} {Q : zQ} (h : VPm y vs n hi hr Q) (hy : plainName (zNm y).cls = true) (hlen : (zsl vs).length ≤ zMx y) (hok : ∀ v ∈ vs, zok n v) (hH : zokH n hi hr) (hn : n ≤ zTOT) (l : Launch) (D : va_G) (cy : Nat → ClassId) (B : Nat) :
    Met l (zNm y) (zWs y) (zRm y) (va_Pc (vs.map (zv B)) (zB0 D cy B n hi hr)) (zQc B cy D (zMc y) Q) (zMc y) (zMs y) (fun q => B ≤ q) := by
  refine Met.ofW (cc := zBy y) (maxL := zMx y) (ret := zRt y) hy rfl ?_
  intro p e s m args below meth c s₁ Bd hml hv
  obtain ⟨rfl, hsz, hP, hK, hX⟩ := hv
  have hts := atoms_spec (ws := zWs y) Bd.pre
  have hl := lv_entry (vs.map (zv B)) (n := zMx y) (by rw [lg_sl_len]; exact hlen)
  rw [lg_entry_eq]
  refine h p l e s m _ below meth c s.heap [] 0 0 D cy B _ ⟨Bd.exec, Bd.bytes, Bd.returns, hml, findClass_of_methodNamed Bd.named, fun w hw => (List.mem_append.mp hw).elim (fun h => hts w (List.mem_cons_of_mem _ h)) (fun h => hX.use w h), Bd.notSynchronized, (name_of_methodNamed Bd.named Bd.method).1, hK⟩ ⟨?_, ⟨hl.1, hl.2.1, fun q hq => hl.2.2 q ?_⟩, fun i v hv => hok v ?_⟩ (fun v hv => by cases hv) ⟨hH, hn, by omega, hP, by omega, va_S.rf, by omega, by omega⟩
  · unfold zen
    simp
    omega
  · obtain ⟨v, h1, -, h2⟩ := zlv_mem.mp hq
    have h3 := z_args B vs 0 q.1 v (zen_get h1)
    rw [Nat.zero_add, ← h2] at h3
    exact h3
  · exact zsl_mem (zen_get hv)
/-- what is fixed of a method -/
def zOK (y : zM) (na mm : Nat) : Prop := plainName (zNm y).cls = true ∧ (zNm y).cls ≠ "java/lang/invoke/MethodHandle" ∧ (zNm y).cls ≠ "java/lang/invoke/VarHandle" ∧ (parseMethodDescriptor (zNm y).desc).map (fun d => d.parameters.length) = some na ∧ mm ≤ zMx y ∧ Cond.code (zNm y) (zBy y) (zMx y) (zRt y) ∈ zTg ∧ Cond.initialized (zNm y).cls ∈ zTb
/-- the room of a call -/
def zRo (y y' : zM) : Prop := zFr y' + 1 ≤ zFr y ∧ 8 + (zMx y' + 11) + zLo y' ≤ zLo y
theorem z_good (y : zM) (h : Cond.code (zNm y) (zBy y) (zMx y) (zRt y) ∈ zTg) : GoodIn zTg (zWs y) := by
  intro w hw
  rcases List.mem_cons.mp hw with rfl | hw
  · exact ⟨h, good_of_word (zGoodAll _ h)⟩
  · exact ⟨hw, good_of_word (zGoodAll _ hw)⟩
theorem z_blind (vs : List Value) (D : va_G) (cy : Nat → ClassId) (B n : Nat) (hi : zI) (hr : zR) : FrameBlind (va_Pc vs (zB0 D cy B n hi hr)) := by
  intro a U g mk q
  obtain ⟨q0, q1, qP, qK, qX⟩ := q
  exact ⟨q0, q1, qP, va_K.moved (u := U) (U := U.calling g mk a) (Vm.Alike.refl U.vm) qK, zXt.warm (s := U) (U := U.calling g mk a) (State.WarmedH.refl U) qX⟩
theorem z_cats (B : Nat) (st : List zV) : ((st.map (zv B)).map fun v => v.category).sum = zw st := by
  induction st with
  | nil => rfl
  | cons v st ih =>
    rw [List.map_cons, List.map_cons, List.sum_cons, zv_cat, ih]
    rfl
/-- behind a call -/
theorem zRun {y y' : zM} {pc : Nat} {ls : List (Option zV)} {st : List zV} {n ac av : Nat} {hi : zI} {hr : zR} {Q : zQ} {p : Program} {l : Launch} {e : Env} {s : State} {m : MethodId} {args : Array Value} {below : List Frame} {meth : Method} {c : Code} {H : Heap} {locs : List Loc} {cells slots : Nat} {D : va_G} {cy : Nat → ClassId} {B : Nat} {lsr : Array Slot} {st0 : List Value} {a : Array Value} {Qn : zQ}
    (hrun : va_Run p l e (zRm y) s m args below meth c H locs cells slots (zMc y') (zMs y') (F0 m pc lsr st0) (st.map (zv B)) (zQc B cy D (zMc y') Qn a) (fun q => B ≤ q))
    (hQn : ∀ r n' hi' hr', Qn r n' hi' hr' → VP y (pc + 3) ls (r.toList ++ st) n' (ac - zMc y') (av - zMs y') hi' hr' Q)
    (C : zCt y D cy p s m args meth c) (L : zLs n B (zMx y) ls lsr) (S : ∀ v ∈ st, zok n v) (G : zG y n ac av hi hr s H locs cells slots D cy B) (hmc : zMc y' ≤ ac) (hms : zMs y' ≤ av) (hsz : H.size = B + n) :
    W p l e (zRm y) s m args below meth c H locs cells slots (MQ below (zQc B cy D (zMc y) Q) args s (zMc y) (zMs y) (fun q => B ≤ q)) (F0 m pc lsr st0) := by
  obtain ⟨g1, g2, g3, g4, g5, g6, g7, g8⟩ := G
  intro T hT X
  obtain ⟨v, st₀, t, T', L', h0, X', hL, e1, e2, ⟨⟨r, n', hi', hr', hv, hq, hok, hH, hn', hsz', hP'⟩, hz, hk⟩, go⟩ := hrun T hT X
  cases hv
  rw [h0] at hz hk hsz'
  have hnn : n ≤ n' := by omega
  have K := hQn r n' hi' hr' hq p l e s m args below meth c T'.heap (locs ++ L') (cells + zMc y') (slots + zMs y') D cy B lsr C (L.mono hnn) (by
    intro w hw
    rcases List.mem_append.mp hw with h | h
    · exact hok w (by simpa using h)
    · exact zok_mono hnn (S w h)) ⟨hH, hn', by omega, by rw [e1]; exact hP', g5, ⟨Nat.le_trans g6.1 (by rw [e1]; exact hz), fun q h1 h2 => by rw [e1, hk q (Nat.lt_of_lt_of_le h1 g6.1) h2]; exact g6.2.1 q h1 h2, fun q hq => by
      rcases List.mem_append.mp hq with h | h
      · exact g6.2.2 q h
      · exact hL q h⟩, by omega, by omega⟩
  obtain ⟨t2, a1, b1⟩ := K T' rfl X'
  refine ⟨t2, go t2 ?_, b1⟩
  have e3 : (r.toList ++ st).map (zv B) = (r.map (zv B)).toList ++ st.map (zv B) := by cases r <;> rfl
  rw [e3] at a1
  exact a1
section ZR
variable {y y' : zM} {pc : Nat} {ls : List (Option zV)} {st vs : List zV} {n ac av : Nat} {hi : zI} {hr : zR} {Q : zQ}
theorem VP.callV {k c N : Nat} {j : Int} {T : u_T} {ty : Nat → FieldType} {index : Nat} (hd : decode (zBy y) pc = .ok (.invokevirtual index, 3)) (hO : zOK y' vs.length ((zsl vs).length + 1)) (hR : zRo y y') (hl : Cond.methodLink (zNm y).cls index (zNm y') ∈ zTb) (hin : Cond.instanceMethod (zNm y') ∈ zTb) (hse : Cond.selects (zNm y').cls (zNm y') (zNm y') ∈ zTb)
    (hk : zSh k = .inl c) (hz : zCl c (zNm y').cls T N ty) (hst : zw st ≤ 8) (hmc : zMc y' ≤ ac) (hms : zMs y' ≤ av) {st0 : List zV} (hst0 : st0 = vs.reverse ++ .inr (some (k, j)) :: st)
    (kk : VPm y' (.inr (some (k, j)) :: vs) n hi hr (fun r n' hi' hr' => VP y (pc + 3) ls (r.toList ++ st) n' (ac - zMc y') (av - zMs y') hi' hr' Q)) : VP y pc ls st0 n ac av hi hr Q := by
  subst hst0
  intro p l e s m args below meth c' H locs cells slots D cy B lsr C L S G
  refine zSized (fun hs => ?_)
  have hsz := zSize G.2.2.1 G.2.2.2.1 G.2.2.2.2.1 G.2.2.2.2.2.1 hs
  obtain ⟨o1, o2, o3, o4, o5, o6, o7⟩ := hO
  have hts := C.2.2.2.2.2.1
  obtain ⟨Sv, S1⟩ := List.forall_mem_append.mp S
  obtain ⟨Sr, S2⟩ := List.forall_mem_cons.mp S1
  have hvs : ∀ v ∈ vs, zok n v := fun v hv => Sv v (List.mem_reverse.mpr hv)
  have hM := kk.met o1 o5 (zok_cons Sr hvs) G.1 G.2.1 l D cy B
  have cb : CallB (zRm y) s args (zNm y).cls index (zNm y') (zBy y') (zMx y') (zRt y') (zWs y') (zRm y') (zMc y') (zMs y') vs.length := callB_of vs.length (fun w h => hts w (List.mem_append_left _ h)) (z_good y' o6) rfl rfl rfl (hts _ o7) (hts _ hl) ⟨o2, o3, o4⟩ hR
  have he := zW_at (B := B) (cy := cy) (hi := hi) (hr := hr) Sr
  rw [zE_o hk] at he
  have hrun := va_runV (As := vs.map (zv B)) (rest := st.map (zv B)) (cells := cells) (slots := slots) (H := H) (locs := locs) (e := e) (below := below) (meth := meth) (g := F0 m pc lsr ((vs.map (zv B)).reverse ++ .ref (zA B (k, j)) :: st.map (zv B))) (nL := zMx y) (C := (zNm y').cls) (b := zA B (k, j)) ⟨C.1, C.2.1, C.2.2.2.1, C.2.2.2.2.1, hts⟩ hM ⟨cb, hts _ hin, hts _ hse⟩ ⟨z_blind _ _ _ _ _ _ _, va_recv C.2.2.2.2.2.2.2.2 G.2.2.2.1 hz.1 he, fun U hU hW => ⟨rfl, by rw [hU, hsz], by rw [hU]; exact G.2.2.2.1, va_K.moved hW.alike C.2.2.2.2.2.2.2.2, (zXt.of hts).warm hW⟩⟩ rfl (by simp) L.2.1.1 rfl (lv_room (by rw [z_cats]; exact hst)) hd ⟨by have := G.2.2.2.2.2.2.1; show cells + zMc y' ≤ zMc y; omega, by have := G.2.2.2.2.2.2.2; show slots + zMs y' ≤ zMs y; omega⟩
  have R := zRun (Q := Q) (ls := ls) hrun (fun r n' hi' hr' h => h) C L S2 G hmc hms hsz
  have es : (vs.reverse ++ .inr (some (k, j)) :: st).map (zv B) = (vs.map (zv B)).reverse ++ .ref (zA B (k, j)) :: st.map (zv B) := by simp [List.map_append]; rfl
  rw [es]
  exact R
theorem VP.callS {index : Nat} (hd : decode (zBy y) pc = .ok (.invokestatic index, 3)) (hO : zOK y' vs.length (zsl vs).length) (hR : zRo y y') (hl : Cond.methodLink (zNm y).cls index (zNm y') ∈ zTb) (hin : Cond.static (zNm y') ∈ zTb)
    (hst : zw st ≤ 8) (hmc : zMc y' ≤ ac) (hms : zMs y' ≤ av) {st0 : List zV} (hst0 : st0 = vs.reverse ++ st)
    (kk : VPm y' vs n hi hr (fun r n' hi' hr' => VP y (pc + 3) ls (r.toList ++ st) n' (ac - zMc y') (av - zMs y') hi' hr' Q)) : VP y pc ls st0 n ac av hi hr Q := by
  subst hst0
  intro p l e s m args below meth c' H locs cells slots D cy B lsr C L S G
  refine zSized (fun hs => ?_)
  have hsz := zSize G.2.2.1 G.2.2.2.1 G.2.2.2.2.1 G.2.2.2.2.2.1 hs
  obtain ⟨o1, o2, o3, o4, o5, o6, o7⟩ := hO
  have hts := C.2.2.2.2.2.1
  obtain ⟨Sv, S2⟩ := List.forall_mem_append.mp S
  have hvs : ∀ v ∈ vs, zok n v := fun v hv => Sv v (List.mem_reverse.mpr hv)
  have hM := kk.met o1 o5 hvs G.1 G.2.1 l D cy B
  have cb : CallB (zRm y) s args (zNm y).cls index (zNm y') (zBy y') (zMx y') (zRt y') (zWs y') (zRm y') (zMc y') (zMs y') vs.length := callB_of vs.length (fun w h => hts w (List.mem_append_left _ h)) (z_good y' o6) rfl rfl rfl (hts _ o7) (hts _ hl) ⟨o2, o3, o4⟩ hR
  have hrun := va_runS (As := vs.map (zv B)) (rest := st.map (zv B)) (cells := cells) (slots := slots) (H := H) (locs := locs) (e := e) (below := below) (meth := meth) (g := F0 m pc lsr ((vs.map (zv B)).reverse ++ st.map (zv B))) (nL := zMx y) ⟨C.1, C.2.1, C.2.2.2.1, C.2.2.2.2.1, hts⟩ hM ⟨cb, hts _ hin⟩ ⟨z_blind _ _ _ _ _ _ _, fun U hU hW => ⟨rfl, by rw [hU, hsz], by rw [hU]; exact G.2.2.2.1, va_K.moved hW.alike C.2.2.2.2.2.2.2.2, (zXt.of hts).warm hW⟩⟩ rfl (by simp) L.2.1.1 rfl (lv_room (by rw [z_cats]; exact hst)) hd ⟨by have := G.2.2.2.2.2.2.1; show cells + zMc y' ≤ zMc y; omega, by have := G.2.2.2.2.2.2.2; show slots + zMs y' ≤ zMs y; omega⟩
  have R := zRun (Q := Q) (ls := ls) hrun (fun r n' hi' hr' h => h) C L S2 G hmc hms hsz
  have es : (vs.reverse ++ st).map (zv B) = (vs.map (zv B)).reverse ++ st.map (zv B) := by simp [List.map_append]
  rw [es]
  exact R
theorem VP.callI {q : Nat × Int} {index : Nat} (hd : decode (zBy y) pc = .ok (.invokespecial index, 3)) (hO : zOK y' vs.length ((zsl vs).length + 1)) (hR : zRo y y') (hl : Cond.methodLink (zNm y).cls index (zNm y') ∈ zTb ∨ ∃ host, Cond.methodLinkNest (zNm y).cls index (zNm y') host ∈ zTb) (hin : Cond.instanceMethod (zNm y') ∈ zTb) (hnm : (zNm y').name = "<init>") (hrt : zRt y' = none)
    (hst : zw st ≤ 8) (hmc : zMc y' ≤ ac) (hms : zMs y' ≤ av) {st0 : List zV} (hst0 : st0 = vs.reverse ++ .inr (some q) :: st)
    (kk : VPm y' (.inr (some q) :: vs) n hi hr (fun r n' hi' hr' => VP y (pc + 3) ls (r.toList ++ st) n' (ac - zMc y') (av - zMs y') hi' hr' Q)) : VP y pc ls st0 n ac av hi hr Q := by
  subst hst0
  intro p l e s m args below meth c' H locs cells slots D cy B lsr C L S G
  refine zSized (fun hs => ?_)
  have hsz := zSize G.2.2.1 G.2.2.2.1 G.2.2.2.2.1 G.2.2.2.2.2.1 hs
  obtain ⟨o1, o2, o3, o4, o5, o6, o7⟩ := hO
  have hts := C.2.2.2.2.2.1
  obtain ⟨Sv, S1⟩ := List.forall_mem_append.mp S
  obtain ⟨Sr, S2⟩ := List.forall_mem_cons.mp S1
  have hvs : ∀ v ∈ vs, zok n v := fun v hv => Sv v (List.mem_reverse.mpr hv)
  have hM := kk.met o1 o5 (zok_cons Sr hvs) G.1 G.2.1 l D cy B
  have es : (vs.reverse ++ .inr (some q) :: st).map (zv B) = (vs.map (zv B)).reverse ++ .ref (zA B q) :: st.map (zv B) := by simp [List.map_append]; rfl
  rw [es]
  have hpre : PreS s H (va_Pc ((.inr (some q) :: vs).map (zv B)) (zB0 D cy B n hi hr)) (.ref (zA B q) :: vs.map (zv B)) := ⟨z_blind _ _ _ _ _ _ _, fun U hU hW => ⟨rfl, by rw [hU, hsz], by rw [hU]; exact G.2.2.2.1, va_K.moved hW.alike C.2.2.2.2.2.2.2.2, (zXt.of hts).warm hW⟩⟩
  have hcs : cells + zMc y' ≤ (zRm y).cells ∧ slots + zMs y' ≤ (zRm y).slots := ⟨by have := G.2.2.2.2.2.2.1; show cells + zMc y' ≤ zMc y; omega, by have := G.2.2.2.2.2.2.2; show slots + zMs y' ≤ zMs y; omega⟩
  have ow : zWs y' = Cond.code (zNm y') (zBy y') (zMx y') none :: zTg := by rw [zWs, hrt]
  rcases hl with hl | ⟨host, hl⟩
  · have cb : CallB (zRm y) s args (zNm y).cls index (zNm y') (zBy y') (zMx y') none (zWs y') (zRm y') (zMc y') (zMs y') vs.length := callB_of vs.length (fun w h => hts w (List.mem_append_left _ h)) (z_good y' o6) ow rfl rfl (hts _ o7) (hts _ hl) ⟨o2, o3, o4⟩ hR
    have hrun := va_runI (As := vs.map (zv B)) (rest := st.map (zv B)) (cells := cells) (slots := slots) (H := H) (locs := locs) (e := e) (below := below) (meth := meth) (g := F0 m pc lsr ((vs.map (zv B)).reverse ++ .ref (zA B q) :: st.map (zv B))) (nL := zMx y) (b := zA B q) ⟨C.1, C.2.1, C.2.2.2.1, C.2.2.2.2.1, hts⟩ hM ⟨cb, hnm, hts _ hin⟩ hpre rfl (by simp) L.2.1.1 rfl (lv_room (by rw [z_cats]; exact hst)) hd hcs
    exact zRun (Q := Q) (ls := ls) hrun (fun r n' hi' hr' h => h) C L S2 G hmc hms hsz
  · have hl2 : va_Nw (.methodLinkNest (zNm y).cls index (zNm y') host) s := by
      have h9 := hts _ hl
      exact h9
    have cb := va_cnB (R := zRm y) (rm := zRm y') (bytes := zBy y') (maxL := zMx y') (ret := none) vs.length (fun w h => hts w (List.mem_append_left _ h)) (z_good y' o6) ow rfl rfl hl2 (hts _ o7) ⟨o2, o3, o4⟩ hR
    have hrun := va_runIN (As := vs.map (zv B)) (rest := st.map (zv B)) (cells := cells) (slots := slots) (H := H) (locs := locs) (e := e) (below := below) (meth := meth) (g := F0 m pc lsr ((vs.map (zv B)).reverse ++ .ref (zA B q) :: st.map (zv B))) (nL := zMx y) (b := zA B q) ⟨C.1, C.2.1, C.2.2.2.1, C.2.2.2.2.1, hts⟩ hM ⟨cb, hnm, hts _ hin⟩ hpre rfl (by simp) L.2.1.1 rfl (lv_room (by rw [z_cats]; exact hst)) hd hcs
    exact zRun (Q := Q) (ls := ls) hrun (fun r n' hi' hr' h => h) C L S2 G hmc hms hsz
theorem VP.objInit {q : Nat × Int} {index : Nat} (hd : decode (zBy y) pc = .ok (.invokespecial index, 3)) (hl : Cond.methodLink (zNm y).cls index objectInit ∈ zTb) (hin : Cond.instanceMethod objectInit ∈ zTb) (hc : Cond.code objectInit ⟨#[0xb1]⟩ 1 none ∈ zTb) (hR : 1 ≤ zFr y ∧ 20 ≤ zLo y) (hst : zw st ≤ 8)
    (kk : VP y (pc + 3) ls st n ac av hi hr Q) : VP y pc ls (.inr (some q) :: st) n ac av hi hr Q := by
  intro p l e s m args below meth c' H locs cells slots D cy B lsr C L S G
  have hts := C.2.2.2.2.2.1
  have h8 : 2 * (F0 m pc lsr (st.map (zv B))).monitorRoom + ((st.map (zv B)).map fun v => v.category).sum ≤ 8 := lv_room (by rw [z_cats]; exact hst)
  refine W.objInit C.1 C.2.1 C.2.2.2.2.1 (hts _ hl) (hts _ hin) (hts _ hc) rfl (by rw [C.2.2.2.1]; exact L.2.1.1) rfl hd hR.1 ?_ (kk p l e s m args below meth c' H locs cells slots D cy B lsr C L (List.forall_mem_cons.mp S).2 G)
  have h9 : 2 * (F0 m pc lsr (st.map (zv B))).monitorRoom + ((st.map (zv B)).map fun v => v.category).sum + 12 ≤ zLo y := by omega
  exact h9
end ZR
