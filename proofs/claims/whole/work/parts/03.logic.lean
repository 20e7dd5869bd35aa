/-! A logic of its own over the kit's W: states are (locals, stack, ints, references) over named cells (kind, number); ints are Int -/
def zNests : List Cond := [.methodLinkNest RX11 11 yX7_init RX11, .methodLinkNest RX11 18 yX2_init RX11, .methodLinkNest RX5 23 yX3_init RX11, .methodLinkNest RX11 32 yX8_init RX11, .methodLinkNest RX1 19 yX4_init RX11, .methodLinkNest RX1 31 yX0_init RX11, .methodLinkNest RX0 11 yX6_init RX11, .methodLinkNest RX11 52 yX10_init RX11, .methodLinkNest RX11 64 yX9_init RX11, .arrayOver (.object RX0), .arrayOver (.object RX3), .arrayOver (.object RX9)]
def zTg : List Cond := lw_tbl.filter goodWord
def zTb : List Cond := zTg ++ zNests
abbrev zV0 : Type := Int ⊕ (Option (Nat × Int) ⊕ Int)
/-- a value: an int, a reference, a long -/
def zV : Type := zV0
abbrev zV.inl (x : Int) : zV := (Sum.inl x : zV0)
abbrev zV.inr (o : Option (Nat × Int)) : zV := (Sum.inr (Sum.inl o) : zV0)
abbrev zV.lo (x : Int) : zV := (Sum.inr (Sum.inr x) : zV0)
abbrev zV.un (v : zV) : zV0 := v
theorem zV.cs {P : zV → Prop} (h1 : ∀ x, P (.inl x)) (h2 : P (.inr none)) (h3 : ∀ q, P (.inr (some q))) (h4 : ∀ x, P (.lo x)) (v : zV) : P v := by
  have h : ∀ w : zV0, P (show zV from w) := by
    rintro (x | o | x)
    · exact h1 x
    · cases o with
      | none => exact h2
      | some q => exact h3 q
    · exact h4 x
  exact h v
def zc (v : zV) : Nat := match zV.un v with
  | .inl _ => 1
  | .inr (.inl _) => 1
  | .inr (.inr _) => 2
def zw (st : List zV) : Nat := st.foldr (fun v n => zc v + n) 0
abbrev zI : Type := Nat → Int → Int → Int
abbrev zR : Type := Nat → Int → Int → Option (Nat × Int)
abbrev zM : Type := MethodName × ByteArray × Nat × Option FieldType × Nat × Nat × Nat × Nat
def zNm (y : zM) : MethodName := y.1
def zBy (y : zM) : ByteArray := y.2.1
def zMx (y : zM) : Nat := y.2.2.1
def zRt (y : zM) : Option FieldType := y.2.2.2.1
def zFr (y : zM) : Nat := y.2.2.2.2.1
def zLo (y : zM) : Nat := y.2.2.2.2.2.1
def zMc (y : zM) : Nat := y.2.2.2.2.2.2.1
def zMs (y : zM) : Nat := y.2.2.2.2.2.2.2
abbrev zInR (x : Int) : Prop := -2147483648 ≤ x ∧ x < 2147483648
theorem z_bmod {z : Int} (h : zInR z) : z.bmod (2 ^ 32) = z := by
  obtain ⟨h1, h2⟩ := h
  rw [Int.bmod_eq_of_le (by omega) (by omega)]
theorem z_ofI {z : Int} (h : zInR z) : (Int32.ofInt z).toInt = z := by rw [Int32.toInt_ofInt, z_bmod h]
theorem z_toI (x : Int32) : zInR x.toInt := by
  have h1 := Int32.le_toInt x
  have h2 := Int32.toInt_lt x
  exact ⟨by omega, by omega⟩
theorem z_lt {a b : Int} (ha : zInR a) (hb : zInR b) : Int32.ofInt a < Int32.ofInt b ↔ a < b := by rw [Int32.lt_iff_toInt_lt, z_ofI ha, z_ofI hb]
theorem z_le {a b : Int} (ha : zInR a) (hb : zInR b) : Int32.ofInt a ≤ Int32.ofInt b ↔ a ≤ b := by rw [Int32.le_iff_toInt_le, z_ofI ha, z_ofI hb]
theorem z_eq {a b : Int} (ha : zInR a) (hb : zInR b) : Int32.ofInt a = Int32.ofInt b ↔ a = b := by rw [← Int32.toInt_inj, z_ofI ha, z_ofI hb]
theorem z_0 : (0 : Int32) = Int32.ofInt 0 := rfl
theorem z_in {x : Int} {n : Nat} (h : zInR x) (h0 : 0 ≤ x) (h1 : x < n) : vp_in (Int32.ofInt x) n := by
  rw [vp_in_iff, z_ofI h]; exact ⟨h0, h1⟩
theorem z_cl {x : Int} (h : zInR x) (h0 : 0 ≤ x) : (((Int32.ofInt x).toNatClampNeg : Nat) : Int) = x := by
  show ((Int32.ofInt x).toInt.toNat : Int) = x
  rw [z_ofI h]; omega
def zA (B : Nat) (q : Nat × Int) : Nat := B + zOff q.1 q.2
def zv (B : Nat) (v : zV) : Value := match zV.un v with
  | .inl x => .int (Int32.ofInt x)
  | .inr (.inl none) => .null
  | .inr (.inl (some q)) => .ref (zA B q)
  | .inr (.inr x) => .long (Int64.ofInt x)
theorem zv_cat (B : Nat) (v : zV) : (zv B v).category = zc v := by
  refine zV.cs (P := fun v => (zv B v).category = zc v) ?_ ?_ ?_ ?_ v
  · exact fun _ => rfl
  · rfl
  · exact fun _ => rfl
  · exact fun _ => rfl
def zf (B : Nat) (o : Option (Nat × Int)) : Option Nat := o.map (zA B)
theorem zf_rf (B : Nat) (o : Option (Nat × Int)) : va_rf (zf B o) = zv B (.inr o) := by cases o <;> rfl
def zFs (B : Nat) (hi : zI) (hr : zR) (q : Nat × Int) (c : Nat) : List Value := (List.range (zNF c)).map (fun s => if zRF c s then va_rf (zf B (hr q.1 q.2 (s : Int))) else .int (Int32.ofInt (hi q.1 q.2 (s : Int))))
def zE (B : Nat) (cy : Nat → ClassId) (hi : zI) (hr : zR) (q : Nat × Int) : va_E := match zSh q.1 with
  | .inl c => .inr (c, zFs B hi hr q c)
  | .inr (t, n) => .inl (cy t, n, if t < 3 then .inl (fun s => Int32.ofInt (hi q.1 q.2 (s : Int))) else if t = 6 then .inr (.inl (fun s => Int64.ofInt (hi q.1 q.2 (s : Int)))) else .inr (.inr (.inr (.inr (fun s => zf B (hr q.1 q.2 (s : Int)))))))
def zW (B : Nat) (cy : Nat → ClassId) (n : Nat) (hi : zI) (hr : zR) : va_W := (List.range n).map (fun i => (B + i, zE B cy hi hr (zAL i)))
theorem zW_get {B : Nat} {cy : Nat → ClassId} {n : Nat} {hi : zI} {hr : zR} {i : Nat} (h : i < n) : (zW B cy n hi hr)[i]? = some (B + i, zE B cy hi hr (zAL i)) := by simp [zW, h]
theorem zW_inv {B : Nat} {cy : Nat → ClassId} {n : Nat} {hi : zI} {hr : zR} {i : Nat} {q : Nat × va_E} (h : (zW B cy n hi hr)[i]? = some q) : i < n ∧ q = (B + i, zE B cy hi hr (zAL i)) := by
  by_cases hi' : i < n
  · rw [zW_get hi'] at h
    exact ⟨hi', (Option.some.inj h).symm⟩
  · simp [zW, hi'] at h
theorem zW_D {B : Nat} {cy : Nat → ClassId} {n : Nat} {hi : zI} {hr : zR} : va_D (fun q => B ≤ q) (zW B cy n hi hr) := by
  refine ⟨fun i j p q hp hq e => ?_, fun k q hk => ?_⟩
  · obtain ⟨-, rfl⟩ := zW_inv hp
    obtain ⟨-, rfl⟩ := zW_inv hq
    exact Nat.add_left_cancel e
  · obtain ⟨-, rfl⟩ := zW_inv hk
    exact Nat.le_add_right _ _
theorem zW_set {B : Nat} {cy : Nat → ClassId} {n : Nat} {hi hi' : zI} {hr hr' : zR} (hn : n ≤ zTOT) {i0 : Nat} (h0 : i0 < n) {q : Nat × Int} (hq : zAL i0 = q) {e' : va_E} (he : e' = zE B cy hi' hr' q)
    (ho : ∀ q', q' ≠ q → zE B cy hi' hr' q' = zE B cy hi hr q') : (zW B cy n hi hr).set i0 (B + i0, e') = zW B cy n hi' hr' := by
  apply List.ext_getElem?
  intro k
  by_cases hkn : k < n
  · by_cases hk : i0 = k
    · subst hk
      rw [List.getElem?_set_self (by simp [zW]; exact hkn), zW_get hkn, he, hq]
    · rw [List.getElem?_set_ne hk, zW_get hkn, zW_get hkn, ho]
      intro e
      apply hk
      have h1 := zTab k (Nat.lt_of_lt_of_le hkn hn)
      have h2 := zTab i0 (Nat.lt_of_lt_of_le h0 hn)
      rw [← h1, ← h2, e, hq]
  · have h1 : ∀ (a b : zI × zR), (zW B cy n a.1 a.2).length ≤ k := fun a b => by simp [zW]; omega
    rw [List.getElem?_eq_none (by rw [List.length_set]; exact h1 (hi, hr) (hi, hr)), List.getElem?_eq_none (h1 (hi', hr') (hi', hr'))]
def zval (n : Nat) (q : Nat × Int) : Prop := zOff q.1 q.2 < n ∧ zAL (zOff q.1 q.2) = q
theorem zval_mono {n n' : Nat} (h : n ≤ n') {q : Nat × Int} (hq : zval n q) : zval n' q := ⟨Nat.lt_of_lt_of_le hq.1 h, hq.2⟩
def zok (n : Nat) (v : zV) : Prop := match zV.un v with
  | .inl x => zInR x
  | .inr (.inl none) => True
  | .inr (.inl (some q)) => zval n q
  | .inr (.inr _) => True
theorem zok_mono {n n' : Nat} (h : n ≤ n') {v : zV} (hv : zok n v) : zok n' v := by
  revert hv
  refine zV.cs (P := fun v => zok n v → zok n' v) ?_ ?_ ?_ ?_ v
  · exact fun _ h => h
  · exact fun _ => trivial
  · exact fun q hq => zval_mono h hq
  · exact fun _ _ => trivial
/-- kinds whose numbers are ints -/
def zIk (k : Nat) : Bool := match zSh k with
  | .inl _ => true
  | .inr (t, _) => t != 6
theorem zIk_o {k c : Nat} (h : zSh k = .inl c) : zIk k = true := by
  unfold zIk
  rw [h]
theorem zIk_a {k t n : Nat} (h : zSh k = .inr (t, n)) (ht : t ≠ 6) : zIk k = true := by
  unfold zIk
  rw [h]
  exact bne_iff_ne.mpr ht
theorem zIk_l {k n : Nat} (h : zSh k = .inr (6, n)) : ¬ zIk k = true := by
  unfold zIk
  rw [h]
  exact fun q => by cases q
def zokH (n : Nat) (hi : zI) (hr : zR) : Prop := (∀ k j s, zIk k = true → zInR (hi k j s)) ∧ ∀ k j s q, hr k j s = some q → zval n q
theorem zokH_r {n : Nat} {hi : zI} {hr : zR} (h : zokH n hi hr) (k : Nat) (j s : Int) : zok n (.inr (hr k j s)) := by
  cases e : hr k j s with
  | none => exact trivial
  | some q => exact h.2 k j s q e
def zNo (o : Option (Option zV)) : Bool := match o with
  | some none => true
  | _ => false
theorem zNo_iff {o : Option (Option zV)} : zNo o = true ↔ o = some none := by
  rcases o with _ | _ | w
  · exact ⟨fun h => (by cases h), fun h => (by cases h)⟩
  · exact ⟨fun _ => rfl, fun _ => rfl⟩
  · exact ⟨fun h => (by cases h), fun h => (by cases h)⟩
/-- what the locals are known to hold; a long counts while the slot behind it is free -/
def zlv (B : Nat) (ls : List (Option zV)) : List (Nat × Value) := (List.range ls.length).filterMap (fun i => ((ls[i]?.join).filter (fun v => zc v == 1 || zNo ls[i + 1]?)).map (fun v => (i, zv B v)))
theorem z_c12 (v : zV) : zc v = 1 ∨ zc v = 2 := by
  refine zV.cs (P := fun v => zc v = 1 ∨ zc v = 2) ?_ ?_ ?_ ?_ v
  · exact fun _ => Or.inl rfl
  · exact Or.inl rfl
  · exact fun _ => Or.inl rfl
  · exact fun _ => Or.inr rfl
theorem zlv_mem {B : Nat} {ls : List (Option zV)} {q : Nat × Value} : q ∈ zlv B ls ↔ ∃ v, ls[q.1]? = some (some v) ∧ (zc v = 1 ∨ ls[q.1 + 1]? = some none) ∧ q.2 = zv B v := by
  rw [zlv, List.mem_filterMap]
  constructor
  · rintro ⟨i, -, h⟩
    rcases h9 : ls[i]? with _ | _ | w
    · rw [h9] at h; cases h
    · rw [h9] at h; cases h
    · rw [h9] at h
      have h8 : (if (zc w == 1 || zNo ls[i + 1]?) = true then some w else none).map (fun v => (i, zv B v)) = some q := h
      by_cases g : (zc w == 1 || zNo ls[i + 1]?) = true
      · rw [if_pos g] at h8
        cases h8
        refine ⟨w, h9, ?_, rfl⟩
        rcases Bool.or_eq_true _ _ ▸ g with g | g
        · exact Or.inl (beq_iff_eq.mp g)
        · exact Or.inr (zNo_iff.mp g)
      · rw [if_neg g] at h8
        cases h8
  · rintro ⟨v, h, g, e⟩
    obtain ⟨i, w⟩ := q
    simp only at h e g
    subst e
    refine ⟨i, ?_, ?_⟩
    · rw [List.mem_range]
      exact (List.getElem?_eq_some_iff.mp h).1
    · rw [h]
      show (if (zc v == 1 || zNo ls[i + 1]?) = true then some v else none).map (fun v => (i, zv B v)) = some (i, zv B v)
      rw [if_pos]
      · rfl
      · rcases g with g | g
        · rw [beq_iff_eq.mpr g]; rfl
        · rw [zNo_iff.mpr g, Bool.or_true]
def zLs (n B mx : Nat) (ls : List (Option zV)) (lsr : Array Slot) : Prop := ls.length = mx ∧ lv_has lsr mx (zlv B ls) ∧ ∀ (i : Nat) (v : zV), ls[i]? = some (some v) → zok n v
theorem zLs.at {n B mx : Nat} {ls : List (Option zV)} {lsr : Array Slot} (h : zLs n B mx ls lsr) {i : Nat} {v : zV} (hi : ls[i]? = some (some v)) (hc : zc v = 1 ∨ ls[i + 1]? = some none) : lsr[i]? = some (.val (zv B v)) :=
  h.2.1.2.2 (i, zv B v) (zlv_mem.mpr ⟨v, hi, hc, rfl⟩)
theorem zLs.mono {n n' B mx : Nat} {ls : List (Option zV)} {lsr : Array Slot} (h : zLs n B mx ls lsr) (hn : n ≤ n') : zLs n' B mx ls lsr := ⟨h.1, h.2.1, fun i v hv => zok_mono hn (h.2.2 i v hv)⟩
theorem zset_at {ls : List (Option zV)} {i : Nat} {o : Option zV} {k : Nat} {w : Option zV} (h : (ls.set i o)[k]? = some w) : (i = k ∧ w = o) ∨ (i ≠ k ∧ ls[k]? = some w) := by
  by_cases e : i = k
  · subst e
    have hl : i < ls.length := by
      have := (List.getElem?_eq_some_iff.mp h).1
      rwa [List.length_set] at this
    rw [List.getElem?_set_self hl] at h
    cases h
    exact Or.inl ⟨rfl, rfl⟩
  · rw [List.getElem?_set_ne e] at h
    exact Or.inr ⟨e, h⟩
theorem zLs.put {n B mx : Nat} {ls : List (Option zV)} {lsr ls' : Array Slot} (h : zLs n B mx ls lsr) {i : Nat} {v : zV} (hv : zok n v)
    (h' : lv_has ls' mx ((i, zv B v) :: (zlv B ls).filter (fun q => !(q.1 == i) && !(q.1 + 1 == i && q.2.category == 2)))) : zLs n B mx (ls.set i (some v)) ls' := by
  refine ⟨by rw [List.length_set]; exact h.1, ⟨h'.1, h'.2.1, fun q hq => h'.2.2 q ?_⟩, fun k w hw => ?_⟩
  · obtain ⟨w, h1, h3, h2⟩ := zlv_mem.mp hq
    rcases zset_at h1 with ⟨e, e'⟩ | ⟨e, h1⟩
    · cases e'
      have : q = (i, zv B v) := by rw [e, ← h2]
      rw [this]
      exact List.mem_cons_self
    · have h4 : zc w = 1 ∨ (i ≠ q.1 + 1 ∧ ls[q.1 + 1]? = some none) := by
        rcases h3 with h3 | h3
        · exact Or.inl h3
        · rcases zset_at h3 with ⟨e1, e2⟩ | ⟨e1, e2⟩
          · cases e2
          · exact Or.inr ⟨e1, e2⟩
      refine List.mem_cons_of_mem _ (List.mem_filter.mpr ⟨zlv_mem.mpr ⟨w, h1, h4.imp id (fun z => z.2), h2⟩, ?_⟩)
      rw [h2, zv_cat]
      have a1 : (q.1 == i) = false := beq_false_of_ne (fun z => e z.symm)
      have a2 : (q.1 + 1 == i && zc w == 2) = false := by
        rcases h4 with h4 | h4
        · rw [h4]; exact Bool.and_false _
        · rw [beq_false_of_ne (fun z => h4.1 z.symm)]; rfl
      rw [a1, a2]; rfl
  · rcases zset_at hw with ⟨e, e'⟩ | ⟨e, h1⟩
    · cases e'
      exact hv
    · exact h.2.2 k w h1
theorem zLs.put2 {n B mx : Nat} {ls : List (Option zV)} {lsr ls' : Array Slot} (h : zLs n B mx ls lsr) {i : Nat} {v : zV} (hv : zok n v)
    (h' : lv_has ls' mx ((i, zv B v) :: (zlv B ls).filter (fun q => !(q.1 == i) && (!(q.1 == i + 1) && !(q.1 + 1 == i && q.2.category == 2))))) : zLs n B mx ((ls.set i (some v)).set (i + 1) none) ls' := by
  refine ⟨by rw [List.length_set, List.length_set]; exact h.1, ⟨h'.1, h'.2.1, fun q hq => h'.2.2 q ?_⟩, fun k w hw => ?_⟩
  · obtain ⟨w, h1, h3, h2⟩ := zlv_mem.mp hq
    rcases zset_at h1 with ⟨e, e'⟩ | ⟨e0, h1⟩
    · cases e'
    · rcases zset_at h1 with ⟨e, e'⟩ | ⟨e, h1⟩
      · cases e'
        have : q = (i, zv B v) := by rw [e, ← h2]
        rw [this]
        exact List.mem_cons_self
      · have h4 : zc w = 1 ∨ (i ≠ q.1 + 1 ∧ ls[q.1 + 1]? = some none) := by
          rcases h3 with h3 | h3
          · exact Or.inl h3
          · rcases zset_at h3 with ⟨e1, e2⟩ | ⟨e1, e2⟩
            · exact absurd (Nat.add_right_cancel e1) e
            · rcases zset_at e2 with ⟨e3, e4⟩ | ⟨e3, e4⟩
              · cases e4
              · exact Or.inr ⟨e3, e4⟩
        refine List.mem_cons_of_mem _ (List.mem_filter.mpr ⟨zlv_mem.mpr ⟨w, h1, h4.imp id (fun z => z.2), h2⟩, ?_⟩)
        rw [h2, zv_cat]
        have a1 : (q.1 == i) = false := beq_false_of_ne (fun z => e z.symm)
        have a0 : (q.1 == i + 1) = false := beq_false_of_ne (fun z => e0 z.symm)
        have a2 : (q.1 + 1 == i && zc w == 2) = false := by
          rcases h4 with h4 | h4
          · rw [h4]; exact Bool.and_false _
          · rw [beq_false_of_ne (fun z => h4.1 z.symm)]; rfl
        rw [a1, a0, a2]; rfl
  · rcases zset_at hw with ⟨e, e'⟩ | ⟨e, h1⟩
    · cases e'
    · rcases zset_at h1 with ⟨e, e'⟩ | ⟨e, h1⟩
      · cases e'
        exact hv
      · exact h.2.2 k w h1
def zTys (cy : Nat → ClassId) : List (ClassId × FieldType) := [(cy 0, .int), (cy 1, .byte), (cy 2, .boolean), (cy 3, .object RX0), (cy 4, .object RX3), (cy 5, .object RX9), (cy 6, .long)]
def zRm (y : zM) : Room := { frames := zFr y, cells := zMc y, slots := zMs y, locals := zLo y }
def zWs (y : zM) : List Cond := Cond.code (zNm y) (zBy y) (zMx y) (zRt y) :: zTg
abbrev zQ : Type := Option zV → Nat → zI → zR → Prop
def zQc (B : Nat) (cy : Nat → ClassId) (D : va_G) (mc : Nat) (Q : zQ) : Array Value → State → Outcome → State → Prop := fun _ st o t =>
  (∃ (r : Option zV) (n : Nat) (hi : zI) (hr : zR), o = .returned (r.map (zv B)) ∧ Q r n hi hr ∧ (∀ v, r = some v → zok n v) ∧ zokH n hi hr ∧ n ≤ zTOT ∧ B + n = st.heap.size + mc ∧ va_P D vwCl (zW B cy n hi hr) t.heap) ∧ va_F (fun q => B ≤ q) st t
def zCt (y : zM) (D : va_G) (cy : Nat → ClassId) (p : Program) (s : State) (m : MethodId) (args : Array Value) (meth : Method) (c : Code) : Prop :=
  p.tables.exec = Jvm.exec ∧ c.code = zBy y ∧ meth.sig.returnType = zRt y ∧ c.maxLocals = zMx y ∧ s.vm.findClass (zNm y).cls = some m.cls ∧ (∀ w ∈ zTb, w.before args s = true) ∧ meth.locks = false ∧ meth.name = (zNm y).name ∧ va_K D vwCl (zTys cy) s
def zG (y : zM) (n ac av : Nat) (hi : zI) (hr : zR) (s : State) (H : Heap) (locs : List Loc) (cells slots : Nat) (D : va_G) (cy : Nat → ClassId) (B : Nat) : Prop :=
  zokH n hi hr ∧ n ≤ zTOT ∧ B + n = s.heap.size + cells ∧ va_P D vwCl (zW B cy n hi hr) H ∧ B ≤ s.heap.size ∧ va_S (fun q => B ≤ q) s.heap H locs ∧ cells + ac = zMc y ∧ slots + av = zMs y
def VP (y : zM) (pc : Nat) (ls : List (Option zV)) (st : List zV) (n ac av : Nat) (hi : zI) (hr : zR) (Q : zQ) : Prop :=
  ∀ (p : Program) (l : Launch) (e : Env) (s : State) (m : MethodId) (args : Array Value) (below : List Frame) (meth : Method) (c : Code) (H : Heap) (locs : List Loc) (cells slots : Nat) (D : va_G) (cy : Nat → ClassId) (B : Nat) (lsr : Array Slot),
    zCt y D cy p s m args meth c → zLs n B (zMx y) ls lsr → (∀ v ∈ st, zok n v) → zG y n ac av hi hr s H locs cells slots D cy B →
    W p l e (zRm y) s m args below meth c H locs cells slots (MQ below (zQc B cy D (zMc y) Q) args s (zMc y) (zMs y) (fun q => B ≤ q)) (F0 m pc lsr (st.map (zv B)))
theorem zok_cons {n : Nat} {v : zV} {st : List zV} (h : zok n v) (hs : ∀ w ∈ st, zok n w) : ∀ w ∈ v :: st, zok n w := List.forall_mem_cons.mpr ⟨h, hs⟩
section ZR
variable {y : zM} {pc : Nat} {ls : List (Option zV)} {st : List zV} {n ac av : Nat} {hi : zI} {hr : zR} {Q : zQ}
theorem VP.iconst {x : Int} (hd : decode (zBy y) pc = .ok (.iconst x, 1)) (hx : zInR x) (k : VP y (pc + 1) ls (.inl x :: st) n ac av hi hr Q) : VP y pc ls st n ac av hi hr Q := by
  intro p l e s m args below meth c H locs cells slots D cy B lsr C L S G
  exact lv_iconst C.1 C.2.1 hd rfl (k p l e s m args below meth c H locs cells slots D cy B lsr C L (zok_cons hx S) G)
theorem VP.bipush {x : Int} (hd : decode (zBy y) pc = .ok (.bipush x, 2)) (hx : (Int8.ofInt x).toInt32 = Int32.ofInt x ∧ zInR x) (k : VP y (pc + 2) ls (.inl x :: st) n ac av hi hr Q) : VP y pc ls st n ac av hi hr Q := by
  intro p l e s m args below meth c H locs cells slots D cy B lsr C L S G
  exact lv_bipush C.1 C.2.1 hd hx.1 (k p l e s m args below meth c H locs cells slots D cy B lsr C L (zok_cons hx.2 S) G)
theorem VP.sipush {x : Int} (hd : decode (zBy y) pc = .ok (.sipush x, 3)) (hx : (Int16.ofInt x).toInt32 = Int32.ofInt x ∧ zInR x) (k : VP y (pc + 3) ls (.inl x :: st) n ac av hi hr Q) : VP y pc ls st n ac av hi hr Q := by
  intro p l e s m args below meth c H locs cells slots D cy B lsr C L S G
  exact lv_sipush C.1 C.2.1 hd hx.1 (k p l e s m args below meth c H locs cells slots D cy B lsr C L (zok_cons hx.2 S) G)
theorem VP.ldc {x : Int} {index : Nat} (hc : Cond.constant (zNm y).cls index (Int32.ofInt x) ∈ zTb) (hd : decode (zBy y) pc = .ok (.ldc index, 2)) (hx : zInR x) (k : VP y (pc + 2) ls (.inl x :: st) n ac av hi hr Q) : VP y pc ls st n ac av hi hr Q := by
  intro p l e s m args below meth c H locs cells slots D cy B lsr C L S G
  exact lv_ldc C.1 C.2.1 C.2.2.2.2.1 (C.2.2.2.2.2.1 _ hc) hd (k p l e s m args below meth c H locs cells slots D cy B lsr C L (zok_cons hx S) G)
theorem VP.null (hd : decode (zBy y) pc = .ok (.aconst_null, 1)) (k : VP y (pc + 1) ls (.inr none :: st) n ac av hi hr Q) : VP y pc ls st n ac av hi hr Q := by
  intro p l e s m args below meth c H locs cells slots D cy B lsr C L S G
  exact lv_null C.1 C.2.1 hd (k p l e s m args below meth c H locs cells slots D cy B lsr C L (zok_cons trivial S) G)
theorem VP.iload_n {i : Fin 4} {x : Int} (hd : decode (zBy y) pc = .ok (.iload_n i, 1)) (hl : ls[(i : Nat)]? = some (some (.inl x))) (k : VP y (pc + 1) ls (.inl x :: st) n ac av hi hr Q) : VP y pc ls st n ac av hi hr Q := by
  intro p l e s m args below meth c H locs cells slots D cy B lsr C L S G
  exact lv_iload_n C.1 C.2.1 hd rfl (L.at hl (Or.inl rfl)) (k p l e s m args below meth c H locs cells slots D cy B lsr C L (zok_cons (L.2.2 _ _ hl) S) G)
theorem VP.iload {i : Nat} {x : Int} (hd : decode (zBy y) pc = .ok (.iload i, 2)) (hl : ls[i]? = some (some (.inl x))) (k : VP y (pc + 2) ls (.inl x :: st) n ac av hi hr Q) : VP y pc ls st n ac av hi hr Q := by
  intro p l e s m args below meth c H locs cells slots D cy B lsr C L S G
  exact lv_iload C.1 C.2.1 hd (L.at hl (Or.inl rfl)) (k p l e s m args below meth c H locs cells slots D cy B lsr C L (zok_cons (L.2.2 _ _ hl) S) G)
theorem VP.aload_n {i : Fin 4} {o : Option (Nat × Int)} (hd : decode (zBy y) pc = .ok (.aload_n i, 1)) (hl : ls[(i : Nat)]? = some (some (.inr o))) (k : VP y (pc + 1) ls (.inr o :: st) n ac av hi hr Q) : VP y pc ls st n ac av hi hr Q := by
  intro p l e s m args below meth c H locs cells slots D cy B lsr C L S G
  have K := k p l e s m args below meth c H locs cells slots D cy B lsr C L (zok_cons (L.2.2 _ _ hl) S) G
  cases o with
  | none => exact lv_aload_nN C.1 C.2.1 hd rfl (L.at hl (Or.inl rfl)) K
  | some q => exact lv_aload_n C.1 C.2.1 hd rfl (L.at hl (Or.inl rfl)) K
theorem VP.aload {i : Nat} {o : Option (Nat × Int)} (hd : decode (zBy y) pc = .ok (.aload i, 2)) (hl : ls[i]? = some (some (.inr o))) (k : VP y (pc + 2) ls (.inr o :: st) n ac av hi hr Q) : VP y pc ls st n ac av hi hr Q := by
  intro p l e s m args below meth c H locs cells slots D cy B lsr C L S G
  have K := k p l e s m args below meth c H locs cells slots D cy B lsr C L (zok_cons (L.2.2 _ _ hl) S) G
  cases o with
  | none => exact lv_aloadN C.1 C.2.1 hd (L.at hl (Or.inl rfl)) K
  | some q => exact lv_aload C.1 C.2.1 hd (L.at hl (Or.inl rfl)) K
theorem VP.istore_n {i : Fin 4} {x : Int} (hd : decode (zBy y) pc = .ok (.istore_n i, 1)) (hn : (i : Nat) < zMx y) (k : VP y (pc + 1) (ls.set (i : Nat) (some (.inl x))) st n ac av hi hr Q) : VP y pc ls (.inl x :: st) n ac av hi hr Q := by
  intro p l e s m args below meth c H locs cells slots D cy B lsr C L S G
  obtain ⟨h1, h2⟩ := List.forall_mem_cons.mp S
  exact lv_istore_n C.1 C.2.1 hd rfl L.2.1 hn rfl (fun ls' h' => k p l e s m args below meth c H locs cells slots D cy B ls' C (L.put h1 h') h2 G)
theorem VP.istore {i : Nat} {x : Int} (hd : decode (zBy y) pc = .ok (.istore i, 2)) (hn : i < zMx y) (k : VP y (pc + 2) (ls.set i (some (.inl x))) st n ac av hi hr Q) : VP y pc ls (.inl x :: st) n ac av hi hr Q := by
  intro p l e s m args below meth c H locs cells slots D cy B lsr C L S G
  obtain ⟨h1, h2⟩ := List.forall_mem_cons.mp S
  exact lv_istore C.1 C.2.1 hd L.2.1 hn rfl (fun ls' h' => k p l e s m args below meth c H locs cells slots D cy B ls' C (L.put h1 h') h2 G)
theorem VP.astore_n {i : Fin 4} {o : Option (Nat × Int)} (hd : decode (zBy y) pc = .ok (.astore_n i, 1)) (hn : (i : Nat) < zMx y) (k : VP y (pc + 1) (ls.set (i : Nat) (some (.inr o))) st n ac av hi hr Q) : VP y pc ls (.inr o :: st) n ac av hi hr Q := by
  intro p l e s m args below meth c H locs cells slots D cy B lsr C L S G
  obtain ⟨h1, h2⟩ := List.forall_mem_cons.mp S
  cases o with
  | none => exact lv_astore_nN C.1 C.2.1 hd rfl L.2.1 hn rfl (fun ls' h' => k p l e s m args below meth c H locs cells slots D cy B ls' C (L.put h1 h') h2 G)
  | some q => exact lv_astore_n C.1 C.2.1 hd rfl L.2.1 hn rfl (fun ls' h' => k p l e s m args below meth c H locs cells slots D cy B ls' C (L.put h1 h') h2 G)
theorem VP.astore {i : Nat} {o : Option (Nat × Int)} (hd : decode (zBy y) pc = .ok (.astore i, 2)) (hn : i < zMx y) (k : VP y (pc + 2) (ls.set i (some (.inr o))) st n ac av hi hr Q) : VP y pc ls (.inr o :: st) n ac av hi hr Q := by
  intro p l e s m args below meth c H locs cells slots D cy B lsr C L S G
  obtain ⟨h1, h2⟩ := List.forall_mem_cons.mp S
  cases o with
  | none => exact lv_astoreN C.1 C.2.1 hd L.2.1 hn rfl (fun ls' h' => k p l e s m args below meth c H locs cells slots D cy B ls' C (L.put h1 h') h2 G)
  | some q => exact lv_astore C.1 C.2.1 hd L.2.1 hn rfl (fun ls' h' => k p l e s m args below meth c H locs cells slots D cy B ls' C (L.put h1 h') h2 G)
end ZR
