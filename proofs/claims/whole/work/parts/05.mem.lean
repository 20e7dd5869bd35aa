def zup (hi : zI) (k : Nat) (j s x : Int) : zI := fun k' j' s' => if k' = k ∧ j' = j ∧ s' = s then x else hi k' j' s'
def zupR (hr : zR) (k : Nat) (j s : Int) (o : Option (Nat × Int)) : zR := fun k' j' s' => if k' = k ∧ j' = j ∧ s' = s then o else hr k' j' s'
def zclr (hi : zI) (k : Nat) (j : Int) : zI := fun k' j' s' => if k' = k ∧ j' = j then 0 else hi k' j' s'
def zclrR (hr : zR) (k : Nat) (j : Int) : zR := fun k' j' s' => if k' = k ∧ j' = j then none else hr k' j' s'
theorem zokH_up {n : Nat} {hi : zI} {hr : zR} (h : zokH n hi hr) {k : Nat} {j s x : Int} (hx : zIk k = true → zInR x) : zokH n (zup hi k j s x) hr := by
  refine ⟨fun k' j' s' hk => ?_, h.2⟩
  unfold zup
  split
  · rename_i q
    exact hx (by rw [← q.1]; exact hk)
  · exact h.1 _ _ _ hk
theorem zokH_upR {n : Nat} {hi : zI} {hr : zR} (h : zokH n hi hr) {k : Nat} {j s : Int} {o : Option (Nat × Int)} (ho : zok n (.inr o)) : zokH n hi (zupR hr k j s o) := by
  refine ⟨h.1, fun k' j' s' q hq => ?_⟩
  unfold zupR at hq
  split at hq
  · subst hq; exact ho
  · exact h.2 _ _ _ _ hq
theorem zokH_clr {n : Nat} {hi : zI} {hr : zR} (h : zokH n hi hr) {k : Nat} {j : Int} : zokH (n + 1) (zclr hi k j) (zclrR hr k j) := by
  refine ⟨fun k' j' s' hk => ?_, fun k' j' s' q hq => ?_⟩
  · unfold zclr
    split
    · exact ⟨by decide, by decide⟩
    · exact h.1 _ _ _ hk
  · unfold zclrR at hq
    split at hq
    · cases hq
    · exact zval_mono (Nat.le_succ n) (h.2 _ _ _ _ hq)
/-- cells of other names are as they were -/
theorem zE_off {B : Nat} {cy : Nat → ClassId} {hi hi' : zI} {hr hr' : zR} {q' : Nat × Int} (h : ∀ s, hi' q'.1 q'.2 s = hi q'.1 q'.2 s) (h2 : ∀ s, hr' q'.1 q'.2 s = hr q'.1 q'.2 s) : zE B cy hi' hr' q' = zE B cy hi hr q' := by
  unfold zE zFs
  have e1 : hi' q'.1 q'.2 = hi q'.1 q'.2 := funext h
  have e2 : hr' q'.1 q'.2 = hr q'.1 q'.2 := funext h2
  rw [e1, e2]
theorem z_ne {k' k : Nat} {j' j : Int} (h : (k', j') ≠ (k, j)) : ¬ (k' = k ∧ j' = j) := fun e => h (by rw [e.1, e.2])
theorem zE_up {B : Nat} {cy : Nat → ClassId} {hi : zI} {hr : zR} {k : Nat} {j s x : Int} {q' : Nat × Int} (h : q' ≠ (k, j)) : zE B cy (zup hi k j s x) hr q' = zE B cy hi hr q' := by
  refine zE_off (fun s' => ?_) (fun _ => rfl)
  unfold zup
  rw [if_neg (fun e => z_ne (k' := q'.1) (j' := q'.2) h ⟨e.1, e.2.1⟩)]
theorem zE_upR {B : Nat} {cy : Nat → ClassId} {hi : zI} {hr : zR} {k : Nat} {j s : Int} {o : Option (Nat × Int)} {q' : Nat × Int} (h : q' ≠ (k, j)) : zE B cy hi (zupR hr k j s o) q' = zE B cy hi hr q' := by
  refine zE_off (fun _ => rfl) (fun s' => ?_)
  unfold zupR
  rw [if_neg (fun e => z_ne (k' := q'.1) (j' := q'.2) h ⟨e.1, e.2.1⟩)]
theorem zE_clr {B : Nat} {cy : Nat → ClassId} {hi : zI} {hr : zR} {k : Nat} {j : Int} {q' : Nat × Int} (h : q' ≠ (k, j)) : zE B cy (zclr hi k j) (zclrR hr k j) q' = zE B cy hi hr q' := by
  refine zE_off (fun s' => ?_) (fun s' => ?_)
  · unfold zclr
    rw [if_neg (z_ne (k' := q'.1) (j' := q'.2) h)]
  · unfold zclrR
    rw [if_neg (z_ne (k' := q'.1) (j' := q'.2) h)]
/-- what is known of a kind of object -/
def zCl (c : Nat) (C : String) (T : u_T) (N : Nat) (ty : Nat → FieldType) : Prop :=
  vwCl[c]? = some (C, T, N) ∧ zNF c = N ∧ (∀ w ∈ u_ws C T N, w ∈ zTb) ∧ (∀ k, k < N → parseFieldDescriptor (T k).2.2.1 = some (ty k)) ∧ (∀ a, a < N → ∀ b, b < N → a ≠ b → (T a).2.1 ≠ (T b).2.1) ∧
  (∀ k, k < N → defaultValue (ty k) = if zRF c k then .null else .int 0) ∧ Cond.instantiable C N ∈ zTb ∧ Cond.initialized C ∈ zTb
theorem zFs_get {B : Nat} {hi : zI} {hr : zR} {q : Nat × Int} {c s : Nat} (h : s < zNF c) : (zFs B hi hr q c)[s]? = some (if zRF c s then va_rf (zf B (hr q.1 q.2 (s : Int))) else .int (Int32.ofInt (hi q.1 q.2 (s : Int)))) := by
  simp [zFs, h]
theorem zFs_len {B : Nat} {hi : zI} {hr : zR} {q : Nat × Int} {c : Nat} : (zFs B hi hr q c).length = zNF c := by simp [zFs]
theorem zFs_set {B : Nat} {hi hi' : zI} {hr hr' : zR} {q : Nat × Int} {c s : Nat} (h : s < zNF c) {v : Value}
    (hv : v = if zRF c s then va_rf (zf B (hr' q.1 q.2 (s : Int))) else .int (Int32.ofInt (hi' q.1 q.2 (s : Int))))
    (ho : ∀ s' : Nat, s' ≠ s → hi' q.1 q.2 (s' : Int) = hi q.1 q.2 (s' : Int) ∧ hr' q.1 q.2 (s' : Int) = hr q.1 q.2 (s' : Int)) : (zFs B hi hr q c).set s v = zFs B hi' hr' q c := by
  apply List.ext_getElem?
  intro k
  by_cases hk : k < zNF c
  · by_cases e : s = k
    · subst e
      rw [List.getElem?_set_self (by rw [zFs_len]; exact hk), zFs_get hk, hv]
    · rw [List.getElem?_set_ne e, zFs_get hk, zFs_get hk, (ho k (fun e2 => e e2.symm)).1, (ho k (fun e2 => e e2.symm)).2]
  · rw [List.getElem?_eq_none (by rw [List.length_set, zFs_len]; omega), List.getElem?_eq_none (by rw [zFs_len]; omega)]
theorem zE_o {B : Nat} {cy : Nat → ClassId} {hi : zI} {hr : zR} {k : Nat} {j : Int} {c : Nat} (hk : zSh k = .inl c) : zE B cy hi hr (k, j) = .inr (c, zFs B hi hr (k, j) c) := by
  unfold zE
  show (match zSh k with | .inl c => _ | .inr (t, n) => _) = _
  rw [hk]
theorem zE_a {B : Nat} {cy : Nat → ClassId} {hi : zI} {hr : zR} {k : Nat} {j : Int} {t len : Nat} (hk : zSh k = .inr (t, len)) (ht : t < 3) : zE B cy hi hr (k, j) = .inl (cy t, len, .inl (fun s => Int32.ofInt (hi k j (s : Int)))) := by
  unfold zE
  show (match zSh k with | .inl c => _ | .inr (t, n) => _) = _
  rw [hk]
  show Sum.inl _ = Sum.inl _
  rw [if_pos ht]
theorem zE_q {B : Nat} {cy : Nat → ClassId} {hi : zI} {hr : zR} {k : Nat} {j : Int} {t len : Nat} (hk : zSh k = .inr (t, len)) (ht : ¬ t < 3) (ht6 : t ≠ 6) : zE B cy hi hr (k, j) = .inl (cy t, len, .inr (.inr (.inr (.inr (fun s => zf B (hr k j (s : Int))))))) := by
  unfold zE
  show (match zSh k with | .inl c => _ | .inr (t, n) => _) = _
  rw [hk]
  show Sum.inl _ = Sum.inl _
  rw [if_neg ht, if_neg ht6]
theorem zE_l {B : Nat} {cy : Nat → ClassId} {hi : zI} {hr : zR} {k : Nat} {j : Int} {len : Nat} (hk : zSh k = .inr (6, len)) : zE B cy hi hr (k, j) = .inl (cy 6, len, .inr (.inl (fun s => Int64.ofInt (hi k j (s : Int))))) := by
  unfold zE
  show (match zSh k with | .inl c => _ | .inr (t, n) => _) = _
  rw [hk]
  show Sum.inl _ = Sum.inl _
  rw [if_neg (by decide), if_pos rfl]
theorem zW_at {B : Nat} {cy : Nat → ClassId} {n : Nat} {hi : zI} {hr : zR} {k : Nat} {j : Int} (h : zval n (k, j)) : (zW B cy n hi hr)[zOff k j]? = some (zA B (k, j), zE B cy hi hr (k, j)) := by
  rw [zW_get h.1, h.2]; rfl
section ZR
variable {y : zM} {pc : Nat} {ls : List (Option zV)} {st : List zV} {n ac av : Nat} {hi : zI} {hr : zR} {Q : zQ}
theorem VP.getI {k c N i : Nat} {j : Int} {C : String} {T : u_T} {ty : Nat → FieldType} {index : Nat} (hd : decode (zBy y) pc = .ok (.getfield index, 3)) (hz : zCl c C T N ty) (hk : zSh k = .inl c) (hs : i < N) (hrf : zRF c i = false)
    (hl : Cond.fieldLink (zNm y).cls index (T i).1 (T i).2.1 (T i).2.2.1 ∈ zTb) (kk : VP y (pc + 3) ls (.inl (hi k j (i : Int)) :: st) n ac av hi hr Q) : VP y pc ls (.inr (some (k, j)) :: st) n ac av hi hr Q := by
  intro p l e s m args below meth c' H locs cells slots D cy B lsr C' L S G
  obtain ⟨h1, S2⟩ := List.forall_mem_cons.mp S
  obtain ⟨z1, z2, z3, z4, z5, z6, z7, z8⟩ := hz
  have he := zW_at (B := B) (cy := cy) (hi := hi) (hr := hr) h1
  rw [zE_o hk] at he
  refine va_get (C := C) (T := T) (N := N) (ci := c) C'.1 C'.2.1 C'.2.2.2.2.2.1 z3 C'.2.2.2.2.1 C'.2.2.2.2.2.2.2.2 G.2.2.2.1 _ he z1 i hs (C'.2.2.2.2.2.1 _ hl) (fun _ h => h) (v := .int (Int32.ofInt (hi k j (i : Int)))) ?_ hd (kk p l e s m args below meth c' H locs cells slots D cy B lsr C' L (zok_cons (v := .inl (hi k j (i : Int))) (G.1.1 _ _ _ (zIk_o hk)) S2) G)
  rw [zFs_get (by rw [z2]; exact hs), hrf]; rfl
theorem VP.getR {k c N i : Nat} {j : Int} {C : String} {T : u_T} {ty : Nat → FieldType} {index : Nat} (hd : decode (zBy y) pc = .ok (.getfield index, 3)) (hz : zCl c C T N ty) (hk : zSh k = .inl c) (hs : i < N) (hrf : zRF c i = true)
    (hl : Cond.fieldLink (zNm y).cls index (T i).1 (T i).2.1 (T i).2.2.1 ∈ zTb) {o : Option (Nat × Int)} (ho : hr k j (i : Int) = o) (kk : VP y (pc + 3) ls (.inr o :: st) n ac av hi hr Q) : VP y pc ls (.inr (some (k, j)) :: st) n ac av hi hr Q := by
  intro p l e s m args below meth c' H locs cells slots D cy B lsr C' L S G
  obtain ⟨h1, S2⟩ := List.forall_mem_cons.mp S
  obtain ⟨z1, z2, z3, z4, z5, z6, z7, z8⟩ := hz
  have he := zW_at (B := B) (cy := cy) (hi := hi) (hr := hr) h1
  rw [zE_o hk] at he
  refine va_get (C := C) (T := T) (N := N) (ci := c) C'.1 C'.2.1 C'.2.2.2.2.2.1 z3 C'.2.2.2.2.1 C'.2.2.2.2.2.2.2.2 G.2.2.2.1 _ he z1 i hs (C'.2.2.2.2.2.1 _ hl) (fun _ h => h) (v := zv B (.inr o)) ?_ hd (kk p l e s m args below meth c' H locs cells slots D cy B lsr C' L (zok_cons (v := .inr o) (by rw [← ho]; exact zokH_r G.1 _ _ _) S2) G)
  rw [zFs_get (by rw [z2]; exact hs), hrf, ← ho]
  exact congrArg some (zf_rf B _)
theorem VP.putI {k c N i : Nat} {j x : Int} {C : String} {T : u_T} {ty : Nat → FieldType} {index : Nat} (hd : decode (zBy y) pc = .ok (.putfield index, 3)) (hz : zCl c C T N ty) (hk : zSh k = .inl c) (hs : i < N) (hrf : zRF c i = false)
    (hl : Cond.fieldLink (zNm y).cls index (T i).1 (T i).2.1 (T i).2.2.1 ∈ zTb) (hf : (T i).2.2.2 = false) (hn : narrow (ty i) (.int (Int32.ofInt x)) = .int (Int32.ofInt x) ∧ fits (ty i) (.int (Int32.ofInt x)) = true)
    (kk : VP y (pc + 3) ls st n ac av (zup hi k j (i : Int) x) hr Q) : VP y pc ls (.inl x :: .inr (some (k, j)) :: st) n ac av hi hr Q := by
  intro p l e s m args below meth c' H locs cells slots D cy B lsr C' L S G
  obtain ⟨hx, S1⟩ := List.forall_mem_cons.mp S
  obtain ⟨h1, S2⟩ := List.forall_mem_cons.mp S1
  obtain ⟨z1, z2, z3, z4, z5, z6, z7, z8⟩ := hz
  obtain ⟨g1, g2, g3, g4, g5, g6, g7, g8⟩ := G
  have he := zW_at (B := B) (cy := cy) (hi := hi) (hr := hr) h1
  rw [zE_o hk] at he
  refine va_put (C := C) (T := T) (N := N) (ci := c) (v := .int (Int32.ofInt x)) C'.1 C'.2.1 C'.2.2.2.2.2.1 z3 ty z4 z5 C'.2.2.2.2.1 C'.2.2.2.2.2.2.2.2 g4 zW_D g6 _ he z1 i hs (C'.2.2.2.2.2.1 _ hl) (fun _ h => h) hf (z4 i hs) hn.1 hn.2 (by rw [zFs_len, z2]; exact hs) hd (fun H1 locs1 hP _ hS => ?_)
  rw [show zA B (k, j) = B + zOff k j from rfl, zW_set (hi' := zup hi k j (i : Int) x) (hr' := hr) g2 h1.1 h1.2 ?_ (fun q' hq' => zE_up hq')] at hP
  · exact kk p l e s m args below meth c' H1 locs1 cells slots D cy B lsr C' L S2 ⟨zokH_up g1 (fun _ => hx), g2, g3, hP, g5, hS, g7, g8⟩
  · rw [zE_o hk, zFs_set (hi' := zup hi k j (i : Int) x) (hr' := hr) (by rw [z2]; exact hs)]
    · rw [hrf]; simp [zup]
    · intro s' hs'
      refine ⟨?_, rfl⟩
      simp [zup]
      omega
theorem z_refty {t : FieldType} (h : (∃ C, t = .object C) ∨ ∃ u, t = .array u) (B : Nat) (o : Option (Nat × Int)) : narrow t (zv B (.inr o)) = zv B (.inr o) ∧ fits t (zv B (.inr o)) = true := by
  rcases h with ⟨C, rfl⟩ | ⟨u, rfl⟩ <;> cases o <;> exact ⟨rfl, rfl⟩
theorem VP.putR {k c N i : Nat} {j : Int} {o : Option (Nat × Int)} {C : String} {T : u_T} {ty : Nat → FieldType} {index : Nat} (hd : decode (zBy y) pc = .ok (.putfield index, 3)) (hz : zCl c C T N ty) (hk : zSh k = .inl c) (hs : i < N) (hrf : zRF c i = true)
    (hl : Cond.fieldLink (zNm y).cls index (T i).1 (T i).2.1 (T i).2.2.1 ∈ zTb) (hf : (T i).2.2.2 = false ∨ ((T i).2.2.2 = true ∧ (zNm y).name = "<init>" ∧ (T i).1 = (zNm y).cls)) (hn : (∃ C, ty i = .object C) ∨ ∃ u, ty i = .array u)
    (kk : VP y (pc + 3) ls st n ac av hi (zupR hr k j (i : Int) o) Q) : VP y pc ls (.inr o :: .inr (some (k, j)) :: st) n ac av hi hr Q := by
  intro p l e s m args below meth c' H locs cells slots D cy B lsr C' L S G
  obtain ⟨hx, S1⟩ := List.forall_mem_cons.mp S
  obtain ⟨h1, S2⟩ := List.forall_mem_cons.mp S1
  obtain ⟨z1, z2, z3, z4, z5, z6, z7, z8⟩ := hz
  obtain ⟨g1, g2, g3, g4, g5, g6, g7, g8⟩ := G
  have he := zW_at (B := B) (cy := cy) (hi := hi) (hr := hr) h1
  rw [zE_o hk] at he
  have hn2 := z_refty hn B o
  have fin : ∀ (H1 : Heap) (locs1 : List Loc), va_P D vwCl ((zW B cy n hi hr).set (zOff k j) (zA B (k, j), .inr (c, (zFs B hi hr (k, j) c).set i (zv B (.inr o))))) H1 → va_S (fun q => B ≤ q) s.heap H1 locs1 → W p l e (zRm y) s m args below meth c' H1 locs1 cells slots (MQ below (zQc B cy D (zMc y) Q) args s (zMc y) (zMs y) (fun q => B ≤ q)) (F0 m (pc + 3) lsr (st.map (zv B))) := by
    intro H1 locs1 hP hS
    rw [show zA B (k, j) = B + zOff k j from rfl, zW_set (hi' := hi) (hr' := zupR hr k j (i : Int) o) g2 h1.1 h1.2 ?_ (fun q' hq' => zE_upR hq')] at hP
    · exact kk p l e s m args below meth c' H1 locs1 cells slots D cy B lsr C' L S2 ⟨zokH_upR g1 hx, g2, g3, hP, g5, hS, g7, g8⟩
    · rw [zE_o hk, zFs_set (hi' := hi) (hr' := zupR hr k j (i : Int) o) (by rw [z2]; exact hs)]
      · rw [hrf]; simp [zupR, zf_rf]
      · intro s' hs'
        refine ⟨rfl, ?_⟩
        simp [zupR]
        omega
  rcases hf with hf | ⟨hf, hf2, hf3⟩
  · exact va_put (C := C) (T := T) (N := N) (ci := c) (v := zv B (.inr o)) C'.1 C'.2.1 C'.2.2.2.2.2.1 z3 ty z4 z5 C'.2.2.2.2.1 C'.2.2.2.2.2.2.2.2 g4 zW_D g6 _ he z1 i hs (C'.2.2.2.2.2.1 _ hl) (fun _ h => h) hf (z4 i hs) hn2.1 hn2.2 (by rw [zFs_len, z2]; exact hs) hd (fun H1 locs1 hP _ hS => fin H1 locs1 hP hS)
  · exact va_putF (C := C) (T := T) (N := N) (ci := c) (v := zv B (.inr o)) C'.1 C'.2.1 C'.2.2.2.2.2.1 z3 ty z4 z5 C'.2.2.2.2.1 C'.2.2.2.2.2.2.2.2 g4 zW_D g6 _ he z1 i hs (C'.2.2.2.2.2.1 _ hl) (fun _ h => h) hf (by rw [C'.2.2.2.2.2.2.2.1]; exact hf2) hf3 (z4 i hs) hn2.1 hn2.2 (by rw [zFs_len, z2]; exact hs) hd (fun H1 locs1 hP _ hS => fin H1 locs1 hP hS)
theorem zTys_at {cy : Nat → ClassId} {t : Nat} (h : t < 7) : (zTys cy)[t]? = some (cy t, ([.int, .byte, .boolean, .object RX0, .object RX3, .object RX9, .long] : List FieldType).getD t .int) := by
  match t, h with
  | 0, _ => rfl
  | 1, _ => rfl
  | 2, _ => rfl
  | 3, _ => rfl
  | 4, _ => rfl
  | 5, _ => rfl
  | 6, _ => rfl
theorem VP.iaload {k len : Nat} {j x : Int} (hd : decode (zBy y) pc = .ok (.iaload, 1)) (hk : zSh k = .inr (0, len)) (h0 : 0 ≤ x) (hx : x < len) (kk : VP y (pc + 1) ls (.inl (hi k j x) :: st) n ac av hi hr Q) : VP y pc ls (.inl x :: .inr (some (k, j)) :: st) n ac av hi hr Q := by
  intro p l e s m args below meth c' H locs cells slots D cy B lsr C' L S G
  obtain ⟨hi0, S1⟩ := List.forall_mem_cons.mp S
  obtain ⟨h1, S2⟩ := List.forall_mem_cons.mp S1
  have he := zW_at (B := B) (cy := cy) (hi := hi) (hr := hr) h1
  rw [zE_a hk (by decide)] at he
  have K := kk p l e s m args below meth c' H locs cells slots D cy B lsr C' L (zok_cons (v := .inl (hi k j x)) (G.1.1 _ _ _ (zIk_a hk (by omega))) S2) G
  refine va_iald C'.1 C'.2.1 C'.2.2.2.2.2.2.2.2 G.2.2.2.1 _ 0 he (zTys_at (by decide)) (z_in hi0 h0 hx) hd ?_
  rw [z_cl hi0 h0]
  exact K
theorem VP.baload {k len t : Nat} {j x : Int} (hd : decode (zBy y) pc = .ok (.baload, 1)) (hk : zSh k = .inr (t, len)) (ht : t = 1 ∨ t = 2) (h0 : 0 ≤ x) (hx : x < len) (kk : VP y (pc + 1) ls (.inl (hi k j x) :: st) n ac av hi hr Q) : VP y pc ls (.inl x :: .inr (some (k, j)) :: st) n ac av hi hr Q := by
  intro p l e s m args below meth c' H locs cells slots D cy B lsr C' L S G
  obtain ⟨hi0, S1⟩ := List.forall_mem_cons.mp S
  obtain ⟨h1, S2⟩ := List.forall_mem_cons.mp S1
  have he := zW_at (B := B) (cy := cy) (hi := hi) (hr := hr) h1
  rw [zE_a hk (by omega)] at he
  have K := kk p l e s m args below meth c' H locs cells slots D cy B lsr C' L (zok_cons (v := .inl (hi k j x)) (G.1.1 _ _ _ (zIk_a hk (by omega))) S2) G
  rcases ht with rfl | rfl
  · refine va_bald C'.1 C'.2.1 C'.2.2.2.2.2.2.2.2 G.2.2.2.1 _ 1 he (zTys_at (by decide)) (z_in hi0 h0 hx) hd ?_
    rw [z_cl hi0 h0]
    exact K
  · refine va_zald C'.1 C'.2.1 C'.2.2.2.2.2.2.2.2 G.2.2.2.1 _ 2 he (zTys_at (by decide)) (z_in hi0 h0 hx) hd ?_
    rw [z_cl hi0 h0]
    exact K
theorem VP.aaload {k len t : Nat} {j x : Int} (hd : decode (zBy y) pc = .ok (.aaload, 1)) (hk : zSh k = .inr (t, len)) (ht : t = 3 ∨ t = 4 ∨ t = 5) (h0 : 0 ≤ x) (hx : x < len) {o : Option (Nat × Int)} (ho : hr k j x = o) (kk : VP y (pc + 1) ls (.inr o :: st) n ac av hi hr Q) : VP y pc ls (.inl x :: .inr (some (k, j)) :: st) n ac av hi hr Q := by
  intro p l e s m args below meth c' H locs cells slots D cy B lsr C' L S G
  obtain ⟨hi0, S1⟩ := List.forall_mem_cons.mp S
  obtain ⟨h1, S2⟩ := List.forall_mem_cons.mp S1
  have he := zW_at (B := B) (cy := cy) (hi := hi) (hr := hr) h1
  rw [zE_q hk (by omega) (by omega)] at he
  have K := kk p l e s m args below meth c' H locs cells slots D cy B lsr C' L (zok_cons (v := .inr o) (by rw [← ho]; exact zokH_r G.1 _ _ _) S2) G
  rcases ht with rfl | rfl | rfl
  · refine va_aldq C'.1 C'.2.1 C'.2.2.2.2.2.2.2.2 G.2.2.2.1 _ 3 he (zTys_at (by decide)) (z_in hi0 h0 hx) hd ?_
    rw [z_cl hi0 h0, zf_rf, ho]
    exact K
  · refine va_aldq C'.1 C'.2.1 C'.2.2.2.2.2.2.2.2 G.2.2.2.1 _ 4 he (zTys_at (by decide)) (z_in hi0 h0 hx) hd ?_
    rw [z_cl hi0 h0, zf_rf, ho]
    exact K
  · refine va_aldq C'.1 C'.2.1 C'.2.2.2.2.2.2.2.2 G.2.2.2.1 _ 5 he (zTys_at (by decide)) (z_in hi0 h0 hx) hd ?_
    rw [z_cl hi0 h0, zf_rf, ho]
    exact K
theorem z_updI {hi : zI} {k : Nat} {j x v : Int} (h : zInR x) (h0 : 0 ≤ x) : upd (fun s : Nat => Int32.ofInt (hi k j (s : Int))) (Int32.ofInt x).toNatClampNeg (Int32.ofInt v) = fun s : Nat => Int32.ofInt (zup hi k j x v k j (s : Int)) := by
  funext s
  have e := z_cl h h0
  by_cases hs : s = (Int32.ofInt x).toNatClampNeg
  · subst hs
    simp [upd, zup, e]
  · have h2 : ¬ (s : Int) = x := fun h3 => hs (by omega)
    simp [upd, zup, hs, h2]
theorem VP.iastore {k len : Nat} {j x v : Int} (hd : decode (zBy y) pc = .ok (.iastore, 1)) (hk : zSh k = .inr (0, len)) (h0 : 0 ≤ x) (hx : x < len) (kk : VP y (pc + 1) ls st n ac av (zup hi k j x v) hr Q) : VP y pc ls (.inl v :: .inl x :: .inr (some (k, j)) :: st) n ac av hi hr Q := by
  intro p l e s m args below meth c' H locs cells slots D cy B lsr C' L S G
  obtain ⟨hv, S0⟩ := List.forall_mem_cons.mp S
  obtain ⟨hi0, S1⟩ := List.forall_mem_cons.mp S0
  obtain ⟨h1, S2⟩ := List.forall_mem_cons.mp S1
  obtain ⟨g1, g2, g3, g4, g5, g6, g7, g8⟩ := G
  have he := zW_at (B := B) (cy := cy) (hi := hi) (hr := hr) h1
  rw [zE_a hk (by decide)] at he
  refine va_iast C'.1 C'.2.1 C'.2.2.2.2.2.2.2.2 g4 zW_D g6 _ 0 he (zTys_at (by decide)) (z_in hi0 h0 hx) hd (fun H1 locs1 hP _ hS => ?_)
  rw [show zA B (k, j) = B + zOff k j from rfl, zW_set (hi' := zup hi k j x v) (hr' := hr) g2 h1.1 h1.2 ?_ (fun q' hq' => zE_up hq')] at hP
  · exact kk p l e s m args below meth c' H1 locs1 cells slots D cy B lsr C' L S2 ⟨zokH_up g1 (fun _ => hv), g2, g3, hP, g5, hS, g7, g8⟩
  · rw [zE_a hk (by decide), z_updI hi0 h0]
theorem VP.bastore {k len t : Nat} {j x v : Int} (hd : decode (zBy y) pc = .ok (.bastore, 1)) (hk : zSh k = .inr (t, len)) (ht : (t = 1 ∧ -128 ≤ v ∧ v < 128) ∨ (t = 2 ∧ 0 ≤ v ∧ v < 2)) (h0 : 0 ≤ x) (hx : x < len) (kk : VP y (pc + 1) ls st n ac av (zup hi k j x v) hr Q) : VP y pc ls (.inl v :: .inl x :: .inr (some (k, j)) :: st) n ac av hi hr Q := by
  intro p l e s m args below meth c' H locs cells slots D cy B lsr C' L S G
  obtain ⟨hv, S0⟩ := List.forall_mem_cons.mp S
  obtain ⟨hi0, S1⟩ := List.forall_mem_cons.mp S0
  obtain ⟨h1, S2⟩ := List.forall_mem_cons.mp S1
  obtain ⟨g1, g2, g3, g4, g5, g6, g7, g8⟩ := G
  have he := zW_at (B := B) (cy := cy) (hi := hi) (hr := hr) h1
  rw [zE_a hk (by omega)] at he
  rcases ht with ⟨rfl, hv1, hv2⟩ | ⟨rfl, hv1, hv2⟩
  · refine va_bast C'.1 C'.2.1 C'.2.2.2.2.2.2.2.2 g4 zW_D g6 _ 1 he (zTys_at (by decide)) (z_in hi0 h0 hx) hd (fun H1 locs1 hP _ hS => ?_)
    have hb : vp_nar .byte (Int32.ofInt v) = Int32.ofInt v := by
      rw [vp_nar_byte]
      apply Int32.toInt_inj.1
      rw [Int8.toInt_toInt32, Int32.toInt_toInt8, z_ofI hv, Int.bmod_eq_of_le (by omega) (by omega)]
    rw [hb] at hP
    rw [show zA B (k, j) = B + zOff k j from rfl, zW_set (hi' := zup hi k j x v) (hr' := hr) g2 h1.1 h1.2 ?_ (fun q' hq' => zE_up hq')] at hP
    · exact kk p l e s m args below meth c' H1 locs1 cells slots D cy B lsr C' L S2 ⟨zokH_up g1 (fun _ => hv), g2, g3, hP, g5, hS, g7, g8⟩
    · rw [zE_a hk (by decide), z_updI hi0 h0]
  · refine va_zast C'.1 C'.2.1 C'.2.2.2.2.2.2.2.2 g4 zW_D g6 _ 2 he (zTys_at (by decide)) (z_in hi0 h0 hx) hd (fun H1 locs1 hP _ hS => ?_)
    have hb : vp_nar .boolean (Int32.ofInt v) = Int32.ofInt v := by
      rcases (show v = 0 ∨ v = 1 by omega) with rfl | rfl <;> decide +kernel
    rw [hb] at hP
    rw [show zA B (k, j) = B + zOff k j from rfl, zW_set (hi' := zup hi k j x v) (hr' := hr) g2 h1.1 h1.2 ?_ (fun q' hq' => zE_up hq')] at hP
    · exact kk p l e s m args below meth c' H1 locs1 cells slots D cy B lsr C' L S2 ⟨zokH_up g1 (fun _ => hv), g2, g3, hP, g5, hS, g7, g8⟩
    · rw [zE_a hk (by decide), z_updI hi0 h0]
theorem VP.laload {k len : Nat} {j x : Int} (hd : decode (zBy y) pc = .ok (.laload, 1)) (hk : zSh k = .inr (6, len)) (h0 : 0 ≤ x) (hx : x < len) (kk : VP y (pc + 1) ls (.lo (hi k j x) :: st) n ac av hi hr Q) : VP y pc ls (.inl x :: .inr (some (k, j)) :: st) n ac av hi hr Q := by
  intro p l e s m args below meth c' H locs cells slots D cy B lsr C' L S G
  obtain ⟨hi0, S1⟩ := List.forall_mem_cons.mp S
  obtain ⟨h1, S2⟩ := List.forall_mem_cons.mp S1
  have he := zW_at (B := B) (cy := cy) (hi := hi) (hr := hr) h1
  rw [zE_l hk] at he
  have K := kk p l e s m args below meth c' H locs cells slots D cy B lsr C' L (zok_cons (v := .lo (hi k j x)) trivial S2) G
  refine va_lald C'.1 C'.2.1 C'.2.2.2.2.2.2.2.2 G.2.2.2.1 _ 6 he (zTys_at (by decide)) (z_in hi0 h0 hx) hd ?_
  rw [z_cl hi0 h0]
  exact K
theorem z_updL {hi : zI} {k : Nat} {j x v : Int} (h : zInR x) (h0 : 0 ≤ x) : vp_updL (fun s : Nat => Int64.ofInt (hi k j (s : Int))) (Int32.ofInt x).toNatClampNeg (Int64.ofInt v) = fun s : Nat => Int64.ofInt (zup hi k j x v k j (s : Int)) := by
  funext s
  have e := z_cl h h0
  by_cases hs : s = (Int32.ofInt x).toNatClampNeg
  · subst hs
    simp [vp_updL, zup, e]
  · have h2 : ¬ (s : Int) = x := fun h3 => hs (by omega)
    simp [vp_updL, zup, hs, h2]
theorem VP.lastore {k len : Nat} {j x v : Int} (hd : decode (zBy y) pc = .ok (.lastore, 1)) (hk : zSh k = .inr (6, len)) (h0 : 0 ≤ x) (hx : x < len) (kk : VP y (pc + 1) ls st n ac av (zup hi k j x v) hr Q) : VP y pc ls (.lo v :: .inl x :: .inr (some (k, j)) :: st) n ac av hi hr Q := by
  intro p l e s m args below meth c' H locs cells slots D cy B lsr C' L S G
  obtain ⟨hv, S0⟩ := List.forall_mem_cons.mp S
  obtain ⟨hi0, S1⟩ := List.forall_mem_cons.mp S0
  obtain ⟨h1, S2⟩ := List.forall_mem_cons.mp S1
  obtain ⟨g1, g2, g3, g4, g5, g6, g7, g8⟩ := G
  have he := zW_at (B := B) (cy := cy) (hi := hi) (hr := hr) h1
  rw [zE_l hk] at he
  refine va_last C'.1 C'.2.1 C'.2.2.2.2.2.2.2.2 g4 zW_D g6 _ 6 he (zTys_at (by decide)) (z_in hi0 h0 hx) hd (fun H1 locs1 hP _ hS => ?_)
  rw [show zA B (k, j) = B + zOff k j from rfl, zW_set (hi' := zup hi k j x v) (hr' := hr) g2 h1.1 h1.2 ?_ (fun q' hq' => zE_up hq')] at hP
  · exact kk p l e s m args below meth c' H1 locs1 cells slots D cy B lsr C' L S2 ⟨zokH_up g1 (fun q => absurd q (zIk_l hk)), g2, g3, hP, g5, hS, g7, g8⟩
  · rw [zE_l hk, z_updL hi0 h0]
theorem VP.alen {k len t : Nat} {j : Int} (hd : decode (zBy y) pc = .ok (.arraylength, 1)) (hk : zSh k = .inr (t, len)) (ht : t < 7) (hn : len < 2147483648) (kk : VP y (pc + 1) ls (.inl (len : Int) :: st) n ac av hi hr Q) : VP y pc ls (.inr (some (k, j)) :: st) n ac av hi hr Q := by
  intro p l e s m args below meth c' H locs cells slots D cy B lsr C' L S G
  obtain ⟨h1, S2⟩ := List.forall_mem_cons.mp S
  have he := zW_at (B := B) (cy := cy) (hi := hi) (hr := hr) h1
  have K := kk p l e s m args below meth c' H locs cells slots D cy B lsr C' L (zok_cons (v := .inl (len : Int)) ⟨by omega, by omega⟩ S2) G
  by_cases h3 : t < 3
  · rw [zE_a hk h3] at he
    exact va_alen (v := Int32.ofInt (len : Int)) C'.1 C'.2.1 C'.2.2.2.2.2.2.2.2 G.2.2.2.1 _ t he (zTys_at ht) (by rfl) hd K
  · by_cases h6 : t = 6
    · subst h6
      rw [zE_l hk] at he
      exact va_alen (v := Int32.ofInt (len : Int)) C'.1 C'.2.1 C'.2.2.2.2.2.2.2.2 G.2.2.2.1 _ 6 he (zTys_at ht) (by rfl) hd K
    · rw [zE_q hk h3 h6] at he
      exact va_alen (v := Int32.ofInt (len : Int)) C'.1 C'.2.1 C'.2.2.2.2.2.2.2.2 G.2.2.2.1 _ t he (zTys_at ht) (by rfl) hd K
theorem VP.aastore {k len t k2 c : Nat} {j x j2 : Int} {C : String} {T : u_T} {N : Nat} {ty : Nat → FieldType} (hd : decode (zBy y) pc = .ok (.aastore, 1)) (hk : zSh k = .inr (t, len)) (hk2 : zSh k2 = .inl c) (hz : zCl c C T N ty) (ht : (t = 3 ∧ C = RX0) ∨ (t = 4 ∧ C = RX3) ∨ (t = 5 ∧ C = RX9)) (h0 : 0 ≤ x) (hx : x < len) (kk : VP y (pc + 1) ls st n ac av hi (zupR hr k j x (some (k2, j2))) Q) : VP y pc ls (.inr (some (k2, j2)) :: .inl x :: .inr (some (k, j)) :: st) n ac av hi hr Q := by
  intro p l e s m args below meth c' H locs cells slots D cy B lsr C' L S G
  obtain ⟨hv, S0⟩ := List.forall_mem_cons.mp S
  obtain ⟨hi0, S1⟩ := List.forall_mem_cons.mp S0
  obtain ⟨h1, S2⟩ := List.forall_mem_cons.mp S1
  obtain ⟨g1, g2, g3, g4, g5, g6, g7, g8⟩ := G
  obtain ⟨z1, z2, z3, z4, z5, z6, z7, z8⟩ := hz
  have he := zW_at (B := B) (cy := cy) (hi := hi) (hr := hr) h1
  rw [zE_q hk (by omega) (by omega)] at he
  have he2 := zW_at (B := B) (cy := cy) (hi := hi) (hr := hr) hv
  rw [zE_o hk2] at he2
  have htt : (zTys cy)[t]? = some (cy t, .object C) := by
    rcases ht with ⟨rfl, rfl⟩ | ⟨rfl, rfl⟩ | ⟨rfl, rfl⟩ <;> rfl
  refine va_astq (r := (C, T, N)) C'.1 C'.2.1 C'.2.2.2.2.2.2.2.2 g4 zW_D g6 _ t _ c he htt he2 z1 (z_in hi0 h0 hx) hd (fun H1 locs1 hP _ hS => ?_)
  rw [show zA B (k, j) = B + zOff k j from rfl, zW_set (hi' := hi) (hr' := zupR hr k j x (some (k2, j2))) g2 h1.1 h1.2 ?_ (fun q' hq' => zE_upR hq')] at hP
  · exact kk p l e s m args below meth c' H1 locs1 cells slots D cy B lsr C' L S2 ⟨zokH_upR g1 hv, g2, g3, hP, g5, hS, g7, g8⟩
  · rw [zE_q hk (by omega) (by omega)]
    have e := z_cl hi0 h0
    have e2 : va_up (fun s : Nat => zf B (hr k j (s : Int))) (Int32.ofInt x).toNatClampNeg (some (zA B (k2, j2))) = fun s : Nat => zf B (zupR hr k j x (some (k2, j2)) k j (s : Int)) := by
      funext s
      by_cases hs : s = (Int32.ofInt x).toNatClampNeg
      · subst hs
        simp [va_up, zupR, e, zf]
      · have h2 : ¬ (s : Int) = x := fun h3 => hs (by omega)
        simp [va_up, zupR, hs, h2]
    rw [e2]
end ZR
