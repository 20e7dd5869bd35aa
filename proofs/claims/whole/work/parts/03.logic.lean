/-! A logic of its own over the kit's W: states are (locals, stack, ints, references) over named cells (kind, number); ints are Int -/
def zNests : List Cond := [.methodLinkNest RX11 11 yX7_init RX11, .methodLinkNest RX11 18 yX2_init RX11, .methodLinkNest RX5 23 yX3_init RX11, .methodLinkNest RX11 32 yX8_init RX11, .methodLinkNest RX1 19 yX4_init RX11, .methodLinkNest RX1 31 yX0_init RX11, .methodLinkNest RX0 11 yX6_init RX11, .methodLinkNest RX11 52 yX10_init RX11, .methodLinkNest RX11 64 yX9_init RX11, .arrayOver (.object RX0), .arrayOver (.object RX3), .arrayOver (.object RX9)]
def zTg : List Cond := lw_tbl.filter goodWord
def zTb : List Cond := zTg ++ zNests
abbrev zV : Type := Int ⊕ Option (Nat × Int)
abbrev zI : Type := Nat → Int → Int → Int
abbrev zR : Type := Nat → Int → Int → Option (Nat × Int)
abbrev zM : Type := MethodName × ByteArray × Nat × Option FieldType × Nat × Nat × Nat × Nat
def zNm (y : zM) : MethodName := y.1
def zBy (y : zM) : ByteArray := y.2.1
def zMx (y : zM) : Nat := y.2.2.1
def zRt (y : zM) : Option FieldType := y.2.2.2.1
def zFr (y : zM) : Nat := y.2.2.2.2.1
def zLo (y : zM) : Nat := y.2.2.2.2.2.1
def zMc (y : zM) : Nat := y.2.2.2.2.2.2.1
def zMs (y : zM) : Nat := y.2.2.2.2.2.2.2
abbrev zInR (x : Int) : Prop := -2147483648 ≤ x ∧ x < 2147483648
theorem z_bmod {z : Int} (h : zInR z) : z.bmod (2 ^ 32) = z := by
  obtain ⟨h1, h2⟩ := h
  rw [Int.bmod_eq_of_le (by omega) (by omega)]
theorem z_ofI {z : Int} (h : zInR z) : (Int32.ofInt z).toInt = z := by rw [Int32.toInt_ofInt, z_bmod h]
theorem z_toI (x : Int32) : zInR x.toInt := by
  have h1 := Int32.le_toInt x
  have h2 := Int32.toInt_lt x
  exact ⟨by omega, by omega⟩
theorem z_lt {a b : Int} (ha : zInR a) (hb : zInR b) : Int32.ofInt a < Int32.ofInt b ↔ a < b := by rw [Int32.lt_iff_toInt_lt, z_ofI ha, z_ofI hb]
theorem z_le {a b : Int} (ha : zInR a) (hb : zInR b) : Int32.ofInt a ≤ Int32.ofInt b ↔ a ≤ b := by rw [Int32.le_iff_toInt_le, z_ofI ha, z_ofI hb]
theorem z_eq {a b : Int} (ha : zInR a) (hb : zInR b) : Int32.ofInt a = Int32.ofInt b ↔ a = b := by rw [← Int32.toInt_inj, z_ofI ha, z_ofI hb]
theorem z_0 : (0 : Int32) = Int32.ofInt 0 := rfl
theorem z_in {x : Int} {n : Nat} (h : zInR x) (h0 : 0 ≤ x) (h1 : x < n) : vp_in (Int32.ofInt x) n := by
  rw [vp_in_iff, z_ofI h]; exact ⟨h0, h1⟩
theorem z_cl {x : Int} (h : zInR x) (h0 : 0 ≤ x) : (((Int32.ofInt x).toNatClampNeg : Nat) : Int) = x := by
  show ((Int32.ofInt x).toInt.toNat : Int) = x
  rw [z_ofI h]; omega
def zA (B : Nat) (q : Nat × Int) : Nat := B + zOff q.1 q.2
def zv (B : Nat) (v : zV) : Value := match v with
  | .inl x => .int (Int32.ofInt x)
  | .inr none => .null
  | .inr (some q) => .ref (zA B q)
theorem zv_cat (B : Nat) (v : zV) : (zv B v).category = 1 := by
  rcases v with x | _ | q <;> rfl
def zf (B : Nat) (o : Option (Nat × Int)) : Option Nat := o.map (zA B)
theorem zf_rf (B : Nat) (o : Option (Nat × Int)) : va_rf (zf B o) = zv B (.inr o) := by cases o <;> rfl
def zFs (B : Nat) (hi : zI) (hr : zR) (q : Nat × Int) (c : Nat) : List Value := (List.range (zNF c)).map (fun s => if zRF c s then va_rf (zf B (hr q.1 q.2 (s : Int))) else .int (Int32.ofInt (hi q.1 q.2 (s : Int))))
def zE (B : Nat) (cy : Nat → ClassId) (hi : zI) (hr : zR) (q : Nat × Int) : va_E := match zSh q.1 with
  | .inl c => .inr (c, zFs B hi hr q c)
  | .inr (t, n) => .inl (cy t, n, if t < 3 then .inl (fun s => Int32.ofInt (hi q.1 q.2 (s : Int))) else .inr (.inr (.inr (.inr (fun s => zf B (hr q.1 q.2 (s : Int)))))))
def zW (B : Nat) (cy : Nat → ClassId) (n : Nat) (hi : zI) (hr : zR) : va_W := (List.range n).map (fun i => (B + i, zE B cy hi hr (zAL i)))
theorem zW_get {B : Nat} {cy : Nat → ClassId} {n : Nat} {hi : zI} {hr : zR} {i : Nat} (h : i < n) : (zW B cy n hi hr)[i]? = some (B + i, zE B cy hi hr (zAL i)) := by simp [zW, h]
theorem zW_inv {B : Nat} {cy : Nat → ClassId} {n : Nat} {hi : zI} {hr : zR} {i : Nat} {q : Nat × va_E} (h : (zW B cy n hi hr)[i]? = some q) : i < n ∧ q = (B + i, zE B cy hi hr (zAL i)) := by
  by_cases hi' : i < n
  · rw [zW_get hi'] at h
    exact ⟨hi', (Option.some.inj h).symm⟩
  · simp [zW, hi'] at h
theorem zW_D {B : Nat} {cy : Nat → ClassId} {n : Nat} {hi : zI} {hr : zR} : va_D (fun q => B ≤ q) (zW B cy n hi hr) := by
  refine ⟨fun i j p q hp hq e => ?_, fun k q hk => ?_⟩
  · obtain ⟨-, rfl⟩ := zW_inv hp
    obtain ⟨-, rfl⟩ := zW_inv hq
    exact Nat.add_left_cancel e
  · obtain ⟨-, rfl⟩ := zW_inv hk
    exact Nat.le_add_right _ _
theorem zW_set {B : Nat} {cy : Nat → ClassId} {n : Nat} {hi hi' : zI} {hr hr' : zR} (hn : n ≤ zTOT) {i0 : Nat} (h0 : i0 < n) {q : Nat × Int} (hq : zAL i0 = q) {e' : va_E} (he : e' = zE B cy hi' hr' q)
    (ho : ∀ q', q' ≠ q → zE B cy hi' hr' q' = zE B cy hi hr q') : (zW B cy n hi hr).set i0 (B + i0, e') = zW B cy n hi' hr' := by
  apply List.ext_getElem?
  intro k
  by_cases hkn : k < n
  · by_cases hk : i0 = k
    · subst hk
      rw [List.getElem?_set_self (by simp [zW]; exact hkn), zW_get hkn, he, hq]
    · rw [List.getElem?_set_ne hk, zW_get hkn, zW_get hkn, ho]
      intro e
      apply hk
      have h1 := zTab k (Nat.lt_of_lt_of_le hkn hn)
      have h2 := zTab i0 (Nat.lt_of_lt_of_le h0 hn)
      rw [← h1, ← h2, e, hq]
  · have h1 : ∀ (a b : zI × zR), (zW B cy n a.1 a.2).length ≤ k := fun a b => by simp [zW]; omega
    rw [List.getElem?_eq_none (by rw [List.length_set]; exact h1 (hi, hr) (hi, hr)), List.getElem?_eq_none (h1 (hi', hr') (hi', hr'))]
def zval (n : Nat) (q : Nat × Int) : Prop := zOff q.1 q.2 < n ∧ zAL (zOff q.1 q.2) = q
theorem zval_mono {n n' : Nat} (h : n ≤ n') {q : Nat × Int} (hq : zval n q) : zval n' q := ⟨Nat.lt_of_lt_of_le hq.1 h, hq.2⟩
def zok (n : Nat) (v : zV) : Prop := match v with
  | .inl x => zInR x
  | .inr none => True
  | .inr (some q) => zval n q
theorem zok_mono {n n' : Nat} (h : n ≤ n') {v : zV} (hv : zok n v) : zok n' v := by
  rcases v with x | _ | q
  · exact hv
  · exact trivial
  · exact zval_mono h hv
def zokH (n : Nat) (hi : zI) (hr : zR) : Prop := (∀ k j s, zInR (hi k j s)) ∧ ∀ k j s q, hr k j s = some q → zval n q
theorem zokH_r {n : Nat} {hi : zI} {hr : zR} (h : zokH n hi hr) (k : Nat) (j s : Int) : zok n (.inr (hr k j s)) := by
  cases e : hr k j s with
  | none => exact trivial
  | some q => exact h.2 k j s q e
def zlv (B : Nat) (ls : List (Option zV)) : List (Nat × Value) := (List.range ls.length).filterMap (fun i => (ls[i]?.join).map (fun v => (i, zv B v)))
theorem zlv_mem {B : Nat} {ls : List (Option zV)} {q : Nat × Value} : q ∈ zlv B ls ↔ ∃ v, ls[q.1]? = some (some v) ∧ q.2 = zv B v := by
  rw [zlv, List.mem_filterMap]
  constructor
  · rintro ⟨i, -, h⟩
    cases hj : ls[i]?.join with
    | none => rw [hj] at h; simp at h
    | some v =>
      rw [hj] at h
      simp at h
      subst h
      refine ⟨v, ?_, rfl⟩
      show ls[i]? = some (some v)
      rcases h9 : ls[i]? with _ | _ | w
      · rw [h9] at hj; simp at hj
      · rw [h9] at hj; simp at hj
      · rw [h9] at hj; simp at hj; rw [hj]
  · rintro ⟨v, h, e⟩
    obtain ⟨i, w⟩ := q
    simp only at h e
    subst e
    refine ⟨i, ?_, ?_⟩
    · rw [List.mem_range]
      exact (List.getElem?_eq_some_iff.mp h).1
    · simp [h]
def zLs (n B mx : Nat) (ls : List (Option zV)) (lsr : Array Slot) : Prop := ls.length = mx ∧ lv_has lsr mx (zlv B ls) ∧ ∀ (i : Nat) (v : zV), ls[i]? = some (some v) → zok n v
theorem zLs.at {n B mx : Nat} {ls : List (Option zV)} {lsr : Array Slot} (h : zLs n B mx ls lsr) {i : Nat} {v : zV} (hi : ls[i]? = some (some v)) : lsr[i]? = some (.val (zv B v)) :=
  h.2.1.2.2 (i, zv B v) (zlv_mem.mpr ⟨v, hi, rfl⟩)
theorem zLs.mono {n n' B mx : Nat} {ls : List (Option zV)} {lsr : Array Slot} (h : zLs n B mx ls lsr) (hn : n ≤ n') : zLs n' B mx ls lsr := ⟨h.1, h.2.1, fun i v hv => zok_mono hn (h.2.2 i v hv)⟩
theorem zLs.put {n B mx : Nat} {ls : List (Option zV)} {lsr ls' : Array Slot} (h : zLs n B mx ls lsr) {i : Nat} {v : zV} (hv : zok n v)
    (h' : lv_has ls' mx ((i, zv B v) :: (zlv B ls).filter (fun q => !(q.1 == i) && !(q.1 + 1 == i && q.2.category == 2)))) : zLs n B mx (ls.set i (some v)) ls' := by
  refine ⟨by rw [List.length_set]; exact h.1, ⟨h'.1, h'.2.1, fun q hq => h'.2.2 q ?_⟩, fun k w hw => ?_⟩
  · obtain ⟨w, h1, h2⟩ := zlv_mem.mp hq
    by_cases e : i = q.1
    · subst e
      have hl : q.1 < ls.length := by
        have := (List.getElem?_eq_some_iff.mp h1).1
        rwa [List.length_set] at this
      rw [List.getElem?_set_self hl] at h1
      cases h1
      rw [← h2]
      exact List.mem_cons_self
    · rw [List.getElem?_set_ne e] at h1
      refine List.mem_cons_of_mem _ (List.mem_filter.mpr ⟨zlv_mem.mpr ⟨w, h1, h2⟩, ?_⟩)
      rw [h2, zv_cat]
      simp
      exact fun e2 => e e2.symm
  · by_cases e : i = k
    · subst e
      have hl : i < ls.length := by
        have := (List.getElem?_eq_some_iff.mp hw).1
        rwa [List.length_set] at this
      rw [List.getElem?_set_self hl] at hw
      cases hw
      exact hv
    · rw [List.getElem?_set_ne e] at hw
      exact h.2.2 k w hw
def zTys (cy : Nat → ClassId) : List (ClassId × FieldType) := [(cy 0, .int), (cy 1, .byte), (cy 2, .boolean), (cy 3, .object RX0), (cy 4, .object RX3), (cy 5, .object RX9)]
def zRm (y : zM) : Room := { frames := zFr y, cells := zMc y, slots := zMs y, locals := zLo y }
def zWs (y : zM) : List Cond := Cond.code (zNm y) (zBy y) (zMx y) (zRt y) :: zTg
abbrev zQ : Type := Option zV → Nat → zI → zR → Prop
def zQc (B : Nat) (cy : Nat → ClassId) (D : va_G) (mc : Nat) (Q : zQ) : Array Value → State → Outcome → State → Prop := fun _ st o t =>
  (∃ (r : Option zV) (n : Nat) (hi : zI) (hr : zR), o = .returned (r.map (zv B)) ∧ Q r n hi hr ∧ (∀ v, r = some v → zok n v) ∧ zokH n hi hr ∧ n ≤ zTOT ∧ B + n = st.heap.size + mc ∧ va_P D vwCl (zW B cy n hi hr) t.heap) ∧ va_F (fun q => B ≤ q) st t
def zCt (y : zM) (D : va_G) (cy : Nat → ClassId) (p : Program) (s : State) (m : MethodId) (args : Array Value) (meth : Method) (c : Code) : Prop :=
  p.tables.exec = Jvm.exec ∧ c.code = zBy y ∧ meth.sig.returnType = zRt y ∧ c.maxLocals = zMx y ∧ s.vm.findClass (zNm y).cls = some m.cls ∧ (∀ w ∈ zTb, w.before args s = true) ∧ meth.locks = false ∧ meth.name = (zNm y).name ∧ va_K D vwCl (zTys cy) s
def zG (y : zM) (n ac av : Nat) (hi : zI) (hr : zR) (s : State) (H : Heap) (locs : List Loc) (cells slots : Nat) (D : va_G) (cy : Nat → ClassId) (B : Nat) : Prop :=
  zokH n hi hr ∧ n ≤ zTOT ∧ B + n = s.heap.size + cells ∧ va_P D vwCl (zW B cy n hi hr) H ∧ B ≤ s.heap.size ∧ va_S (fun q => B ≤ q) s.heap H locs ∧ cells + ac = zMc y ∧ slots + av = zMs y
def VP (y : zM) (pc : Nat) (ls : List (Option zV)) (st : List zV) (n ac av : Nat) (hi : zI) (hr : zR) (Q : zQ) : Prop :=
  ∀ (p : Program) (l : Launch) (e : Env) (s : State) (m : MethodId) (args : Array Value) (below : List Frame) (meth : Method) (c : Code) (H : Heap) (locs : List Loc) (cells slots : Nat) (D : va_G) (cy : Nat → ClassId) (B : Nat) (lsr : Array Slot),
    zCt y D cy p s m args meth c → zLs n B (zMx y) ls lsr → (∀ v ∈ st, zok n v) → zG y n ac av hi hr s H locs cells slots D cy B →
    W p l e (zRm y) s m args below meth c H locs cells slots (MQ below (zQc B cy D (zMc y) Q) args s (zMc y) (zMs y) (fun q => B ≤ q)) (F0 m pc lsr (st.map (zv B)))
theorem zok_cons {n : Nat} {v : zV} {st : List zV} (h : zok n v) (hs : ∀ w ∈ st, zok n w) : ∀ w ∈ v :: st, zok n w := List.forall_mem_cons.mpr ⟨h, hs⟩
section ZR
variable {y : zM} {pc : Nat} {ls : List (Option zV)} {st : List zV} {n ac av : Nat} {hi : zI} {hr : zR} {Q : zQ}
theorem VP.iconst {x : Int} (hd : decode (zBy y) pc = .ok (.iconst x, 1)) (hx : zInR x) (k : VP y (pc + 1) ls (.inl x :: st) n ac av hi hr Q) : VP y pc ls st n ac av hi hr Q := by
  intro p l e s m args below meth c H locs cells slots D cy B lsr C L S G
  exact lv_iconst C.1 C.2.1 hd rfl (k p l e s m args below meth c H locs cells slots D cy B lsr C L (zok_cons hx S) G)
theorem VP.bipush {x : Int} (hd : decode (zBy y) pc = .ok (.bipush x, 2)) (hx : (Int8.ofInt x).toInt32 = Int32.ofInt x ∧ zInR x) (k : VP y (pc + 2) ls (.inl x :: st) n ac av hi hr Q) : VP y pc ls st n ac av hi hr Q := by
  intro p l e s m args below meth c H locs cells slots D cy B lsr C L S G
  exact lv_bipush C.1 C.2.1 hd hx.1 (k p l e s m args below meth c H locs cells slots D cy B lsr C L (zok_cons hx.2 S) G)
theorem VP.sipush {x : Int} (hd : decode (zBy y) pc = .ok (.sipush x, 3)) (hx : (Int16.ofInt x).toInt32 = Int32.ofInt x ∧ zInR x) (k : VP y (pc + 3) ls (.inl x :: st) n ac av hi hr Q) : VP y pc ls st n ac av hi hr Q := by
  intro p l e s m args below meth c H locs cells slots D cy B lsr C L S G
  exact lv_sipush C.1 C.2.1 hd hx.1 (k p l e s m args below meth c H locs cells slots D cy B lsr C L (zok_cons hx.2 S) G)
theorem VP.ldc {x : Int} {index : Nat} (hc : Cond.constant (zNm y).cls index (Int32.ofInt x) ∈ zTb) (hd : decode (zBy y) pc = .ok (.ldc index, 2)) (hx : zInR x) (k : VP y (pc + 2) ls (.inl x :: st) n ac av hi hr Q) : VP y pc ls st n ac av hi hr Q := by
  intro p l e s m args below meth c H locs cells slots D cy B lsr C L S G
  exact lv_ldc C.1 C.2.1 C.2.2.2.2.1 (C.2.2.2.2.2.1 _ hc) hd (k p l e s m args below meth c H locs cells slots D cy B lsr C L (zok_cons hx S) G)
theorem VP.null (hd : decode (zBy y) pc = .ok (.aconst_null, 1)) (k : VP y (pc + 1) ls (.inr none :: st) n ac av hi hr Q) : VP y pc ls st n ac av hi hr Q := by
  intro p l e s m args below meth c H locs cells slots D cy B lsr C L S G
  exact lv_null C.1 C.2.1 hd (k p l e s m args below meth c H locs cells slots D cy B lsr C L (zok_cons trivial S) G)
theorem VP.iload_n {i : Fin 4} {x : Int} (hd : decode (zBy y) pc = .ok (.iload_n i, 1)) (hl : ls[(i : Nat)]? = some (some (.inl x))) (k : VP y (pc + 1) ls (.inl x :: st) n ac av hi hr Q) : VP y pc ls st n ac av hi hr Q := by
  intro p l e s m args below meth c H locs cells slots D cy B lsr C L S G
  exact lv_iload_n C.1 C.2.1 hd rfl (L.at hl) (k p l e s m args below meth c H locs cells slots D cy B lsr C L (zok_cons (L.2.2 _ _ hl) S) G)
theorem VP.iload {i : Nat} {x : Int} (hd : decode (zBy y) pc = .ok (.iload i, 2)) (hl : ls[i]? = some (some (.inl x))) (k : VP y (pc + 2) ls (.inl x :: st) n ac av hi hr Q) : VP y pc ls st n ac av hi hr Q := by
  intro p l e s m args below meth c H locs cells slots D cy B lsr C L S G
  exact lv_iload C.1 C.2.1 hd (L.at hl) (k p l e s m args below meth c H locs cells slots D cy B lsr C L (zok_cons (L.2.2 _ _ hl) S) G)
theorem VP.aload_n {i : Fin 4} {o : Option (Nat × Int)} (hd : decode (zBy y) pc = .ok (.aload_n i, 1)) (hl : ls[(i : Nat)]? = some (some (.inr o))) (k : VP y (pc + 1) ls (.inr o :: st) n ac av hi hr Q) : VP y pc ls st n ac av hi hr Q := by
  intro p l e s m args below meth c H locs cells slots D cy B lsr C L S G
  have K := k p l e s m args below meth c H locs cells slots D cy B lsr C L (zok_cons (L.2.2 _ _ hl) S) G
  cases o with
  | none => exact lv_aload_nN C.1 C.2.1 hd rfl (L.at hl) K
  | some q => exact lv_aload_n C.1 C.2.1 hd rfl (L.at hl) K
theorem VP.aload {i : Nat} {o : Option (Nat × Int)} (hd : decode (zBy y) pc = .ok (.aload i, 2)) (hl : ls[i]? = some (some (.inr o))) (k : VP y (pc + 2) ls (.inr o :: st) n ac av hi hr Q) : VP y pc ls st n ac av hi hr Q := by
  intro p l e s m args below meth c H locs cells slots D cy B lsr C L S G
  have K := k p l e s m args below meth c H locs cells slots D cy B lsr C L (zok_cons (L.2.2 _ _ hl) S) G
  cases o with
  | none => exact lv_aloadN C.1 C.2.1 hd (L.at hl) K
  | some q => exact lv_aload C.1 C.2.1 hd (L.at hl) K
theorem VP.istore_n {i : Fin 4} {x : Int} (hd : decode (zBy y) pc = .ok (.istore_n i, 1)) (hn : (i : Nat) < zMx y) (k : VP y (pc + 1) (ls.set (i : Nat) (some (.inl x))) st n ac av hi hr Q) : VP y pc ls (.inl x :: st) n ac av hi hr Q := by
  intro p l e s m args below meth c H locs cells slots D cy B lsr C L S G
  obtain ⟨h1, h2⟩ := List.forall_mem_cons.mp S
  exact lv_istore_n C.1 C.2.1 hd rfl L.2.1 hn rfl (fun ls' h' => k p l e s m args below meth c H locs cells slots D cy B ls' C (L.put h1 h') h2 G)
theorem VP.istore {i : Nat} {x : Int} (hd : decode (zBy y) pc = .ok (.istore i, 2)) (hn : i < zMx y) (k : VP y (pc + 2) (ls.set i (some (.inl x))) st n ac av hi hr Q) : VP y pc ls (.inl x :: st) n ac av hi hr Q := by
  intro p l e s m args below meth c H locs cells slots D cy B lsr C L S G
  obtain ⟨h1, h2⟩ := List.forall_mem_cons.mp S
  exact lv_istore C.1 C.2.1 hd L.2.1 hn rfl (fun ls' h' => k p l e s m args below meth c H locs cells slots D cy B ls' C (L.put h1 h') h2 G)
theorem VP.astore_n {i : Fin 4} {o : Option (Nat × Int)} (hd : decode (zBy y) pc = .ok (.astore_n i, 1)) (hn : (i : Nat) < zMx y) (k : VP y (pc + 1) (ls.set (i : Nat) (some (.inr o))) st n ac av hi hr Q) : VP y pc ls (.inr o :: st) n ac av hi hr Q := by
  intro p l e s m args below meth c H locs cells slots D cy B lsr C L S G
  obtain ⟨h1, h2⟩ := List.forall_mem_cons.mp S
  cases o with
  | none => exact lv_astore_nN C.1 C.2.1 hd rfl L.2.1 hn rfl (fun ls' h' => k p l e s m args below meth c H locs cells slots D cy B ls' C (L.put h1 h') h2 G)
  | some q => exact lv_astore_n C.1 C.2.1 hd rfl L.2.1 hn rfl (fun ls' h' => k p l e s m args below meth c H locs cells slots D cy B ls' C (L.put h1 h') h2 G)
theorem VP.astore {i : Nat} {o : Option (Nat × Int)} (hd : decode (zBy y) pc = .ok (.astore i, 2)) (hn : i < zMx y) (k : VP y (pc + 2) (ls.set i (some (.inr o))) st n ac av hi hr Q) : VP y pc ls (.inr o :: st) n ac av hi hr Q := by
  intro p l e s m args below meth c H locs cells slots D cy B lsr C L S G
  obtain ⟨h1, h2⟩ := List.forall_mem_cons.mp S
  cases o with
  | none => exact lv_astoreN C.1 C.2.1 hd L.2.1 hn rfl (fun ls' h' => k p l e s m args below meth c H locs cells slots D cy B ls' C (L.put h1 h') h2 G)
  | some q => exact lv_astore C.1 C.2.1 hd L.2.1 hn rfl (fun ls' h' => k p l e s m args below meth c H locs cells slots D cy B ls' C (L.put h1 h') h2 G)
end ZR
