theorem zSized {p : Program} {l : Launch} {e : Env} {R : Room} {s : State} {m : MethodId} {args : Array Value} {below : List Frame} {meth : Method} {c : Code} {H : Heap} {locs : List Loc} {cells slots : Nat} {Qf : State → Prop} {g : JFrame}
    (k : H.size ≤ s.heap.size + cells → W p l e R s m args below meth c H locs cells slots Qf g) : W p l e R s m args below meth c H locs cells slots Qf g := fun T hT X => k (hT ▸ X.heapSize) T hT X
theorem zSize {B : Nat} {cy : Nat → ClassId} {n : Nat} {hi : zI} {hr : zR} {D : va_G} {s : State} {H : Heap} {cells : Nat} {locs : List Loc} (g3 : B + n = s.heap.size + cells) (g4 : va_P D vwCl (zW B cy n hi hr) H) (g5 : B ≤ s.heap.size) (g6 : va_S (fun q => B ≤ q) s.heap H locs) (h : H.size ≤ s.heap.size + cells) : H.size = B + n := by
  have h2 := g6.1
  cases n with
  | zero => omega
  | succ n =>
    have h1 := (g4 n _ (zW_get (Nat.lt_succ_self n))).lt
    simp only at h1
    omega
theorem zW_push {B : Nat} {cy : Nat → ClassId} {n : Nat} {hi hi' : zI} {hr hr' : zR} (hn : n < zTOT) {q : Nat × Int} (hq : zAL n = q) (ho : ∀ q', q' ≠ q → zE B cy hi' hr' q' = zE B cy hi hr q') : zW B cy (n + 1) hi' hr' = zW B cy n hi hr ++ [(B + n, zE B cy hi' hr' q)] := by
  unfold zW
  rw [List.range_succ, List.map_append]
  congr 1
  · apply List.map_congr_left
    intro i hi0
    rw [List.mem_range] at hi0
    rw [ho]
    intro e
    have h1 := zTab i (by omega)
    have h2 := zTab n hn
    rw [e] at h1
    rw [hq] at h2
    omega
  · simp [hq]
/-- a new cell's address is the next one -/
theorem zFresh {B : Nat} {cy : Nat → ClassId} {n : Nat} {hi : zI} {hr : zR} {D : va_G} {H1 : Heap} {a : Nat} {x : va_E} (hP : va_P D vwCl (zW B cy n hi hr ++ [(a, x)]) H1) (hD : va_D (fun q => B ≤ q) (zW B cy n hi hr ++ [(a, x)])) (hs : H1.size ≤ B + n + 1) : a = B + n := by
  have hl : (zW B cy n hi hr).length = n := by simp [zW]
  have hlast : (zW B cy n hi hr ++ [(a, x)])[n]? = some (a, x) := by
    rw [List.getElem?_append_right (by omega), hl]; simp
  have h1 := (hP n _ hlast).lt
  have h2 := hD.2 n _ hlast
  simp only at h1 h2
  by_cases h : a < B + n
  · exfalso
    have h3 : a - B < n := by omega
    have h4 : (zW B cy n hi hr ++ [(a, x)])[a - B]? = some (B + (a - B), zE B cy hi hr (zAL (a - B))) := by
      rw [List.getElem?_append_left (by omega), zW_get h3]
    have h5 := hD.1 _ _ _ _ h4 hlast (by show B + (a - B) = a; omega)
    omega
  · omega
section ZR
variable {y : zM} {pc : Nat} {ls : List (Option zV)} {st : List zV} {n ac av : Nat} {hi : zI} {hr : zR} {Q : zQ}
theorem zclr_self (hi : zI) (k : Nat) (j s : Int) : zclr hi k j k j s = 0 := by simp [zclr]
theorem zclrR_self (hr : zR) (k : Nat) (j s : Int) : zclrR hr k j k j s = none := by simp [zclrR]
theorem VP.new {k c N : Nat} {j : Int} {C : String} {T : u_T} {ty : Nat → FieldType} {index : Nat} (hd : decode (zBy y) pc = .ok (.new index, 3)) (hz : zCl c C T N ty) (hl : Cond.classLink (zNm y).cls index C ∈ zTb) (hn : n < zTOT) (hq : zAL n = (k, j)) (hk : zSh k = .inl c) (hac : 1 ≤ ac) (hav : N ≤ av)
    (kk : VP y (pc + 3) ls (.inr (some (k, j)) :: st) (n + 1) (ac - 1) (av - N) (zclr hi k j) (zclrR hr k j) Q) : VP y pc ls st n ac av hi hr Q := by
  intro p l e s m args below meth c' H locs cells slots D cy B lsr C' L S G
  obtain ⟨z1, z2, z3, z4, z5, z6, z7, z8⟩ := hz
  obtain ⟨g1, g2, g3, g4, g5, g6, g7, g8⟩ := G
  refine va_new (C := C) (T := T) (N := N) (ci := c) (fs := zFs B (zclr hi k j) (zclrR hr k j) (k, j) c) C'.1 C'.2.1 C'.2.2.2.2.2.1 z3 ty z4 C'.2.2.2.2.1 (C'.2.2.2.2.2.1 _ hl) (C'.2.2.2.2.2.1 _ z7) (C'.2.2.2.2.2.1 _ z8) C'.2.2.2.2.2.2.2.2 g4 zW_D g6 (fun q h => Nat.le_trans g5 h) z1 ?_ ?_ ?_ hd (fun a H1 hP hD hS => ?_)
  · intro i hi0
    rw [z6 i hi0]
    simp only [vp_V, List.getD_eq_getElem?_getD]
    rw [zFs_get (by rw [z2]; exact hi0)]
    show _ = (if zRF c i = true then va_rf (zf B (zclrR hr k j k j (i : Int))) else Value.int (Int32.ofInt (zclr hi k j k j (i : Int))))
    rw [zclr_self, zclrR_self]
    rfl
  · show cells + 1 ≤ zMc y
    omega
  · show slots + N ≤ zMs y
    omega
  · refine zSized (fun hs => ?_)
    have ha := zFresh hP hD (by omega)
    subst ha
    rw [← zE_o (cy := cy) hk, ← zW_push hn hq (fun q' h => zE_clr h)] at hP
    have hv : zval (n + 1) (k, j) := by
      have h1 := zTab n hn
      rw [hq] at h1
      exact ⟨by show zOff k j < n + 1; simp only at h1; omega, by show zAL (zOff k j) = _; simp only at h1; rw [h1, hq]⟩
    have ea : zA B (k, j) = B + n := by
      have h1 := zTab n hn
      rw [hq] at h1
      simp only at h1
      show B + zOff k j = _
      rw [h1]
    have K := kk p l e s m args below meth c' H1 locs (cells + 1) (slots + N) D cy B lsr C' (L.mono (Nat.le_succ n)) (zok_cons (v := .inr (some (k, j))) hv (fun v h => zok_mono (Nat.le_succ n) (S v h))) ⟨zokH_clr g1, hn, by omega, hP, g5, hS, by omega, by omega⟩
    have K2 : W p l e (zRm y) s m args below meth c' H1 locs (cells + 1) (slots + N) _ (F0 m (pc + 3) lsr (.ref (zA B (k, j)) :: st.map (zv B))) := K
    rw [ea] at K2
    exact K2
theorem VP.newarr {k len t : Nat} {j : Int} {atype : ArrayType} (hd : decode (zBy y) pc = .ok (.newarray atype, 2)) (hl : Cond.arrayClass (newarray.typeOf atype) ∈ zTb) (ht : (t = 0 ∧ newarray.typeOf atype = .int) ∨ (t = 1 ∧ newarray.typeOf atype = .byte) ∨ (t = 2 ∧ newarray.typeOf atype = .boolean)) (hn : n < zTOT) (hq : zAL n = (k, j)) (hk : zSh k = .inr (t, len)) (hlen : len < 67108864) (hac : 1 ≤ ac) (hav : len ≤ av)
    (kk : VP y (pc + 2) ls (.inr (some (k, j)) :: st) (n + 1) (ac - 1) (av - len) (zclr hi k j) (zclrR hr k j) Q) : VP y pc ls (.inl (len : Int) :: st) n ac av hi hr Q := by
  intro p l e s m args below meth c' H locs cells slots D cy B lsr C' L S G
  obtain ⟨g1, g2, g3, g4, g5, g6, g7, g8⟩ := G
  obtain ⟨h0, S2⟩ := List.forall_mem_cons.mp S
  have ht6 : t < 3 := by rcases ht with ⟨rfl, _⟩ | ⟨rfl, _⟩ | ⟨rfl, _⟩ <;> decide
  have hx : zInR (len : Int) := ⟨by omega, by omega⟩
  refine va_newa (ty := newarray.typeOf atype) (N' := len) (a0 := (len, .inl (fun s : Nat => Int32.ofInt (zclr hi k j k j (s : Int))))) C'.1 C'.2.1 (C'.2.2.2.2.2.1 _ hl) rfl C'.2.2.2.2.2.2.2.2 g4 zW_D g6 (fun q h => Nat.le_trans g5 h) ?_ ?_ ?_ ?_ ?_ ?_ hd (fun a cA H1 hK hP hD hS => ?_)
  · intro cA
    rw [vp_cell_i]
    congr 1
    funext s
    rw [zclr_self]
    rcases ht with ⟨_, h⟩ | ⟨_, h⟩ | ⟨_, h⟩ <;> rw [h] <;> rfl
  · rw [z_0, z_lt hx (by decide)]; omega
  · have := z_cl hx (by omega)
    omega
  · rcases ht with ⟨_, h⟩ | ⟨_, h⟩ | ⟨_, h⟩ <;> rw [h] <;> show len * _ ≤ _ <;> simp [componentBytes] <;> omega
  · show cells + 1 ≤ zMc y
    omega
  · show slots + len ≤ zMs y
    omega
  · refine zSized (fun hs => ?_)
    have ha := zFresh hP hD (by omega)
    subst ha
    have hc : cA = cy t := by
      have h1 := (hK.2 (zTys cy).length (cA, newarray.typeOf atype) (by rw [List.getElem?_append_right (Nat.le_refl _)]; simp)).2
      have h2 := (C'.2.2.2.2.2.2.2.2.2 t _ (zTys_at (show t < 7 by omega))).2
      rcases ht with ⟨rfl, h⟩ | ⟨rfl, h⟩ | ⟨rfl, h⟩ <;> rw [h] at h1 <;> exact Option.some.inj (h1.symm.trans h2)
    subst hc
    rw [← zE_a (cy := cy) (hr := zclrR hr k j) hk ht6, ← zW_push hn hq (fun q' h => zE_clr h)] at hP
    have h1 := zTab n hn
    rw [hq] at h1
    simp only at h1
    have hv : zval (n + 1) (k, j) := ⟨by show zOff k j < n + 1; omega, by show zAL (zOff k j) = _; rw [h1, hq]⟩
    have ea : zA B (k, j) = B + n := by
      show B + zOff k j = _
      rw [h1]
    have K := kk p l e s m args below meth c' H1 locs (cells + 1) (slots + len) D cy B lsr C' (L.mono (Nat.le_succ n)) (zok_cons (v := .inr (some (k, j))) hv (fun v h => zok_mono (Nat.le_succ n) (S2 v h))) ⟨zokH_clr g1, hn, by omega, hP, g5, hS, by omega, by omega⟩
    have K2 : W p l e (zRm y) s m args below meth c' H1 locs (cells + 1) (slots + len) _ (F0 m (pc + 2) lsr (.ref (zA B (k, j)) :: st.map (zv B))) := K
    rw [ea] at K2
    exact K2
theorem VP.newarrL {k len : Nat} {j : Int} {atype : ArrayType} (hd : decode (zBy y) pc = .ok (.newarray atype, 2)) (hl : Cond.arrayClass (newarray.typeOf atype) ∈ zTb) (ht : newarray.typeOf atype = .long) (hn : n < zTOT) (hq : zAL n = (k, j)) (hk : zSh k = .inr (6, len)) (hlen : len < 67108864) (hac : 1 ≤ ac) (hav : len ≤ av)
    (kk : VP y (pc + 2) ls (.inr (some (k, j)) :: st) (n + 1) (ac - 1) (av - len) (zclr hi k j) (zclrR hr k j) Q) : VP y pc ls (.inl (len : Int) :: st) n ac av hi hr Q := by
  intro p l e s m args below meth c' H locs cells slots D cy B lsr C' L S G
  obtain ⟨g1, g2, g3, g4, g5, g6, g7, g8⟩ := G
  obtain ⟨h0, S2⟩ := List.forall_mem_cons.mp S
  have hx : zInR (len : Int) := ⟨by omega, by omega⟩
  refine va_newa (ty := newarray.typeOf atype) (N' := len) (a0 := (len, .inr (.inl (fun s : Nat => Int64.ofInt (zclr hi k j k j (s : Int)))))) C'.1 C'.2.1 (C'.2.2.2.2.2.1 _ hl) rfl C'.2.2.2.2.2.2.2.2 g4 zW_D g6 (fun q h => Nat.le_trans g5 h) ?_ ?_ ?_ ?_ ?_ ?_ hd (fun a cA H1 hK hP hD hS => ?_)
  · intro cA
    rw [vp_cell_l]
    congr 1
    funext s
    rw [zclr_self]
    rw [ht]; rfl
  · rw [z_0, z_lt hx (by decide)]; omega
  · have := z_cl hx (by omega)
    omega
  · rw [ht]; show len * _ ≤ _; simp [componentBytes]; omega
  · show cells + 1 ≤ zMc y
    omega
  · show slots + len ≤ zMs y
    omega
  · refine zSized (fun hs => ?_)
    have ha := zFresh hP hD (by omega)
    subst ha
    have hc : cA = cy 6 := by
      have h1 := (hK.2 (zTys cy).length (cA, newarray.typeOf atype) (by rw [List.getElem?_append_right (Nat.le_refl _)]; simp)).2
      have h2 := (C'.2.2.2.2.2.2.2.2.2 6 _ (zTys_at (show 6 < 7 by omega))).2
      rw [ht] at h1
      exact Option.some.inj (h1.symm.trans h2)
    subst hc
    rw [← zE_l (cy := cy) (hr := zclrR hr k j) hk, ← zW_push hn hq (fun q' h => zE_clr h)] at hP
    have h1 := zTab n hn
    rw [hq] at h1
    simp only at h1
    have hv : zval (n + 1) (k, j) := ⟨by show zOff k j < n + 1; omega, by show zAL (zOff k j) = _; rw [h1, hq]⟩
    have ea : zA B (k, j) = B + n := by
      show B + zOff k j = _
      rw [h1]
    have K := kk p l e s m args below meth c' H1 locs (cells + 1) (slots + len) D cy B lsr C' (L.mono (Nat.le_succ n)) (zok_cons (v := .inr (some (k, j))) hv (fun v h => zok_mono (Nat.le_succ n) (S2 v h))) ⟨zokH_clr g1, hn, by omega, hP, g5, hS, by omega, by omega⟩
    have K2 : W p l e (zRm y) s m args below meth c' H1 locs (cells + 1) (slots + len) _ (F0 m (pc + 2) lsr (.ref (zA B (k, j)) :: st.map (zv B))) := K
    rw [ea] at K2
    exact K2
theorem VP.anewarr {k len t : Nat} {j : Int} {index : Nat} {C : String} (hd : decode (zBy y) pc = .ok (.anewarray index, 3)) (hcl : Cond.classLink (zNm y).cls index C ∈ zTb) (hl : Cond.arrayOver (.object C) ∈ zTb) (ht : (t = 3 ∧ C = RX0) ∨ (t = 4 ∧ C = RX3) ∨ (t = 5 ∧ C = RX9)) (hn : n < zTOT) (hq : zAL n = (k, j)) (hk : zSh k = .inr (t, len)) (hlen : len < 67108864) (hac : 1 ≤ ac) (hav : len ≤ av)
    (kk : VP y (pc + 3) ls (.inr (some (k, j)) :: st) (n + 1) (ac - 1) (av - len) (zclr hi k j) (zclrR hr k j) Q) : VP y pc ls (.inl (len : Int) :: st) n ac av hi hr Q := by
  intro p l e s m args below meth c' H locs cells slots D cy B lsr C' L S G
  obtain ⟨g1, g2, g3, g4, g5, g6, g7, g8⟩ := G
  obtain ⟨h0, S2⟩ := List.forall_mem_cons.mp S
  have ht6 : ¬ t < 3 := by rcases ht with ⟨rfl, _⟩ | ⟨rfl, _⟩ | ⟨rfl, _⟩ <;> decide
  have hx : zInR (len : Int) := ⟨by omega, by omega⟩
  have hlr : va_AO C s := by
    have h9 := C'.2.2.2.2.2.1 _ hl
    exact h9
  refine va_newq (N' := len) C'.1 C'.2.1 C'.2.2.2.2.1 (C'.2.2.2.2.2.1 _ hcl) hlr C'.2.2.2.2.2.2.2.2 g4 zW_D g6 (fun q h => Nat.le_trans g5 h) ?_ ?_ (by omega) ?_ ?_ hd (fun a cA H1 hK hP hD hS => ?_)
  · rw [z_0, z_lt hx (by decide)]; omega
  · have := z_cl hx (by omega)
    omega
  · show cells + 1 ≤ zMc y
    omega
  · show slots + len ≤ zMs y
    omega
  · refine zSized (fun hs => ?_)
    have ha := zFresh hP hD (by omega)
    subst ha
    have hc : cA = cy t := by
      have h1 := (hK.2 (zTys cy).length (cA, .object C) (by rw [List.getElem?_append_right (Nat.le_refl _)]; simp)).2
      have h2 := (C'.2.2.2.2.2.2.2.2.2 t (cy t, .object C) (by rcases ht with ⟨rfl, rfl⟩ | ⟨rfl, rfl⟩ | ⟨rfl, rfl⟩ <;> rfl)).2
      obtain ⟨_, _, _, _, _, h3⟩ := h1
      obtain ⟨_, _, _, _, _, h4⟩ := h2
      exact Option.some.inj (h3.symm.trans h4)
    subst hc
    have e2 : (fun _ : Nat => (none : Option Nat)) = fun s : Nat => zf B (zclrR hr k j k j (s : Int)) := by
      funext s
      rw [zclrR_self]; rfl
    rw [e2, ← zE_q (cy := cy) (hi := zclr hi k j) hk ht6 (by rcases ht with ⟨rfl, _⟩ | ⟨rfl, _⟩ | ⟨rfl, _⟩ <;> decide), ← zW_push hn hq (fun q' h => zE_clr h)] at hP
    have h1 := zTab n hn
    rw [hq] at h1
    simp only at h1
    have hv : zval (n + 1) (k, j) := ⟨by show zOff k j < n + 1; omega, by show zAL (zOff k j) = _; rw [h1, hq]⟩
    have ea : zA B (k, j) = B + n := by
      show B + zOff k j = _
      rw [h1]
    have K := kk p l e s m args below meth c' H1 locs (cells + 1) (slots + len) D cy B lsr C' (L.mono (Nat.le_succ n)) (zok_cons (v := .inr (some (k, j))) hv (fun v h => zok_mono (Nat.le_succ n) (S2 v h))) ⟨zokH_clr g1, hn, by omega, hP, g5, hS, by omega, by omega⟩
    have K2 : W p l e (zRm y) s m args below meth c' H1 locs (cells + 1) (slots + len) _ (F0 m (pc + 3) lsr (.ref (zA B (k, j)) :: st.map (zv B))) := K
    rw [ea] at K2
    exact K2
theorem zRet {Q : zQ} {D : va_G} {cy : Nat → ClassId} {B : Nat} {s t : State} {args : Array Value} {H : Heap} {locs : List Loc} {cells slots : Nat} (G : zG y n 0 av hi hr s H locs cells slots D cy B) (ht : t.heap = H) {r : Option zV} (hq : Q r n hi hr) (hr' : ∀ v, r = some v → zok n v) : zQc B cy D (zMc y) Q args s (.returned (r.map (zv B))) t := by
  obtain ⟨g1, g2, g3, g4, g5, g6, g7, g8⟩ := G
  refine ⟨⟨r, n, hi, hr, rfl, hq, hr', g1, g2, by omega, by rw [ht]; exact g4⟩, ?_⟩
  rw [va_F, ht]
  exact ⟨g6.1, g6.2.1⟩
theorem VP.vret (hd : decode (zBy y) pc = .ok (.return_, 1)) (hr0 : zRt y = none) (hq : Q none n hi hr) : VP y pc ls [] n 0 av hi hr Q := by
  intro p l e s m args below meth c' H locs cells slots D cy B lsr C' L S G
  refine W.widen (k := zMc y) (n := zMs y) (by have := G.2.2.2.2.2.2.1; omega) (by have := G.2.2.2.2.2.2.2; omega) ?_
  exact W.vret C'.1 C'.2.1 (C'.2.2.1.trans hr0) (fun t ht hW => zRet G ht hq (fun v h => by cases h)) G.2.2.2.2.2.1.2.2 hd C'.2.2.2.2.2.2.1
theorem VP.iret {x : Int} {t0 : FieldType} (hd : decode (zBy y) pc = .ok (.ireturn, 1)) (hr0 : zRt y = some t0) (hn : narrow t0 (.int (Int32.ofInt x)) = .int (Int32.ofInt x)) (hq : Q (some (.inl x)) n hi hr) : VP y pc ls [.inl x] n 0 av hi hr Q := by
  intro p l e s m args below meth c' H locs cells slots D cy B lsr C' L S G
  refine W.widen (k := zMc y) (n := zMs y) (by have := G.2.2.2.2.2.2.1; omega) (by have := G.2.2.2.2.2.2.2; omega) ?_
  exact W.zret C'.1 C'.2.1 (C'.2.2.1.trans hr0) hn (fun t ht hW => zRet G ht hq (fun v h => by cases h; exact S _ List.mem_cons_self)) G.2.2.2.2.2.1.2.2 hd C'.2.2.2.2.2.2.1
theorem VP.lret {x : Int} (hd : decode (zBy y) pc = .ok (.lreturn, 1)) (hr0 : zRt y = some .long) (hq : Q (some (.lo x)) n hi hr) : VP y pc ls [.lo x] n 0 av hi hr Q := by
  intro p l e s m args below meth c' H locs cells slots D cy B lsr C' L S G
  refine W.widen (k := zMc y) (n := zMs y) (by have := G.2.2.2.2.2.2.1; omega) (by have := G.2.2.2.2.2.2.2; omega) ?_
  exact W.lret C'.1 C'.2.1 (C'.2.2.1.trans hr0) (fun t ht hW => zRet G ht hq (fun v h => by cases h; exact S _ List.mem_cons_self)) G.2.2.2.2.2.1.2.2 hd C'.2.2.2.2.2.2.1
theorem VP.aret {o : Option (Nat × Int)} {C : String} (hd : decode (zBy y) pc = .ok (.areturn, 1)) (hr0 : zRt y = some (.object C)) (hq : Q (some (.inr o)) n hi hr) : VP y pc ls [.inr o] n 0 av hi hr Q := by
  intro p l e s m args below meth c' H locs cells slots D cy B lsr C' L S G
  refine W.widen (k := zMc y) (n := zMs y) (by have := G.2.2.2.2.2.2.1; omega) (by have := G.2.2.2.2.2.2.2; omega) ?_
  exact W.aret C'.1 C'.2.1 (C'.2.2.1.trans hr0) (Or.inl ⟨C, rfl⟩) (by cases o with | none => exact Or.inl rfl | some q => exact Or.inr ⟨_, rfl⟩) (fun t ht hW => zRet G ht hq (fun v h => by cases h; exact S _ List.mem_cons_self)) G.2.2.2.2.2.1.2.2 hd C'.2.2.2.2.2.2.1
end ZR
