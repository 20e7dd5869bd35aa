theorem zNests_in : ∀ w ∈ zNests, w ∈ lw_tbl := List.forall_mem_cons.mpr ⟨(z_t1 26 (by decide +kernel)), List.forall_mem_cons.mpr ⟨(z_t1 43 (by decide +kernel)), List.forall_mem_cons.mpr ⟨(z_t1 74 (by decide +kernel)), List.forall_mem_cons.mpr ⟨(z_t1 131 (by decide +kernel)), List.forall_mem_cons.mpr ⟨(z_t1 177 (by decide +kernel)), List.forall_mem_cons.mpr ⟨(z_t1 226 (by decide +kernel)), List.forall_mem_cons.mpr ⟨(z_t1 232 (by decide +kernel)), List.forall_mem_cons.mpr ⟨(z_t2 78 (by decide +kernel)), List.forall_mem_cons.mpr ⟨(z_t2 123 (by decide +kernel)), List.forall_mem_cons.mpr ⟨(z_t1 174 (by decide +kernel)), List.forall_mem_cons.mpr ⟨(z_t1 72 (by decide +kernel)), List.forall_mem_cons.mpr ⟨(z_t2 75 (by decide +kernel)), fun _ h => absurd h List.not_mem_nil⟩⟩⟩⟩⟩⟩⟩⟩⟩⟩⟩⟩
theorem zTb_of {args : Array Value} {s : State} (h : ∀ w ∈ lw_tbl, w.before args s = true) : ∀ w ∈ zTb, w.before args s = true := fun w hw =>
  (List.mem_append.mp hw).elim (fun h1 => h w (List.mem_filter.mp h1).1) (fun h1 => h w (zNests_in w h1))
theorem zKn {args : Array Value} {s : State} (hts : ∀ w ∈ zTb, w.before args s = true) {c : Nat} {C : String} {T : u_T} {N : Nat} {ty : Nat → FieldType} (h : zCl c C T N ty) : ∃ (cC : ClassId) (iS : Nat → Nat), ∀ q, vwCl[c]? = some q → u_Kn s q.1 q.2.1 q.2.2 cC iS := by
  obtain ⟨z1, z2, z3, z4, z5, z6, z7, z8⟩ := h
  obtain ⟨cC, iS, hk⟩ := u_known hts z3 (hts _ z7)
  refine ⟨cC, iS, fun q hq => ?_⟩
  rw [z1] at hq
  cases hq
  exact hk
theorem zKnA {args : Array Value} {s : State} (hts : ∀ w ∈ zTb, w.before args s = true) : ∀ c : Nat, ∃ (cC : ClassId) (iS : Nat → Nat), ∀ q, vwCl[c]? = some q → u_Kn s q.1 q.2.1 q.2.2 cC iS
  | 0 => zKn hts zc_0
  | 1 => zKn hts zc_1
  | 2 => zKn hts zc_2
  | 3 => zKn hts zc_3
  | 4 => zKn hts zc_4
  | 5 => zKn hts zc_5
  | 6 => zKn hts zc_6
  | 7 => zKn hts zc_7
  | 8 => zKn hts zc_8
  | 9 => zKn hts zc_9
  | 10 => zKn hts zc_10
  | 11 => zKn hts zc_11
  | 12 => zKn hts zc_12
  | n + 13 => ⟨0, fun _ => 0, fun q hq => by
      have h1 : vwCl[n + 13]? = none := List.getElem?_eq_none (by show 13 ≤ n + 13; omega)
      rw [h1] at hq
      cases hq⟩
theorem zArrP {args : Array Value} {s : State} {ty : FieldType} (hp : ∀ C, ty ≠ .object C) (h : (Cond.arrayClass ty).before args s = true) : ∃ cA, ArrOfT s cA ty ∧ va_RA s cA ty := by
  obtain ⟨cA, kA, comp, h1, h2, h3⟩ := Cond.arrayClass_spec h
  refine ⟨cA, fun n z => ⟨fun k h => (by cases h), kA, h2, comp, h3⟩, ?_⟩
  cases ty with
  | object C => exact absurd rfl (hp C)
  | _ => exact h1
theorem zArrO {args : Array Value} {s : State} {C : String} (h : (Cond.arrayOver (.object C)).before args s = true) : ∃ cA, ArrOfT s cA (.object C) ∧ va_RA s cA (.object C) := by
  obtain ⟨comp, cA, kA, h1, h2, h3, h4, h5⟩ := Cond.arrayOver_spec h
  exact ⟨cA, fun n z => ⟨fun k h => (by cases h), kA, h3, comp, h4⟩, kA, comp, h3, h4, h1, h5⟩
theorem zKnown {args : Array Value} {s : State} (hts : ∀ w ∈ zTb, w.before args s = true) : ∃ (D : va_G) (cy : Nat → ClassId), va_K D vwCl (zTys cy) s := by
  obtain ⟨a0, h0⟩ := zArrP (ty := .int) (fun C h => by cases h) (hts _ l_acI)
  obtain ⟨a1, h1⟩ := zArrP (ty := .byte) (fun C h => by cases h) (hts _ l_acB)
  obtain ⟨a2, h2⟩ := zArrP (ty := .boolean) (fun C h => by cases h) (hts _ l_acZ)
  obtain ⟨a3, h3⟩ := zArrO (C := RX0) (hts _ (zn_mem 9 rfl))
  obtain ⟨a4, h4⟩ := zArrO (C := RX3) (hts _ (zn_mem 10 rfl))
  obtain ⟨a5, h5⟩ := zArrO (C := RX9) (hts _ (zn_mem 11 rfl))
  obtain ⟨a6, h6⟩ := zArrP (ty := .long) (fun C h => by cases h) (hts _ l_acJ)
  refine ⟨(fun c => (zKnA hts c).choose, fun c => (zKnA hts c).choose_spec.choose), fun t => [a0, a1, a2, a3, a4, a5, a6].getD t 0, fun c q hq => (zKnA hts c).choose_spec.choose_spec q hq, fun k q hk => ?_⟩
  match k, hk with
  | 0, hk => cases hk; exact h0
  | 1, hk => cases hk; exact h1
  | 2, hk => cases hk; exact h2
  | 3, hk => cases hk; exact h3
  | 4, hk => cases hk; exact h4
  | 5, hk => cases hk; exact h5
  | 6, hk => cases hk; exact h6
  | n + 7, hk => cases hk
