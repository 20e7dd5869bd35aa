section ZR
variable {y : zM} {pc : Nat} {ls : List (Option zV)} {st : List zV} {n ac av : Nat} {hi : zI} {hr : zR} {Q : zQ}

theorem VP.iinc {i : Nat} {d x : Int} (hd : decode (zBy y) pc = .ok (.iinc i d, 3)) (hl : ls[i]? = some (some (.inl x))) (hx : zInR (x + d)) (k : VP y (pc + 3) (ls.set i (some (.inl (x + d)))) st n ac av hi hr Q) : VP y pc ls st n ac av hi hr Q := by
  intro p l e s m args below meth c H locs cells slots D cy B lsr C L S G
  obtain ⟨kk, hk⟩ := List.getElem?_of_mem (zlv_mem.mpr ⟨_, hl, Or.inl rfl, rfl⟩ : (i, zv B (.inl x)) ∈ zlv B ls)
  have hn : i < zMx y := by rw [← L.1]; exact (List.getElem?_eq_some_iff.mp hl).1
  exact lv_iinc (v := Int32.ofInt (x + d)) C.1 C.2.1 hd L.2.1 hk (by rw [Int32.ofInt_add]) hn rfl (fun ls' h' => k p l e s m args below meth c H locs cells slots D cy B ls' C (L.put (v := .inl (x + d)) hx h') S G)
theorem z_add (a b : Int) : Int32.ofInt a + Int32.ofInt b = Int32.ofInt (a + b) := by rw [Int32.ofInt_add]
theorem z_sub (a b : Int) : Int32.ofInt a - Int32.ofInt b = Int32.ofInt (a - b) := by rw [Int32.ofInt_sub]
theorem z_mul (a b : Int) : Int32.ofInt a * Int32.ofInt b = Int32.ofInt (a * b) := by rw [Int32.ofInt_mul]
theorem z_div {a b : Int} (ha : zInR a) (hb : zInR b) (h0 : 0 ≤ a) (h1 : 0 < b) : Int32.ofInt a / Int32.ofInt b = Int32.ofInt (a / b) := by
  have h2 : 0 ≤ a / b := Int.ediv_nonneg h0 (by omega)
  have h3 : a / b ≤ a := Int.ediv_le_self b h0
  apply Int32.toInt_inj.1
  rw [Int32.toInt_div, z_ofI ha, z_ofI hb, Int.tdiv_eq_ediv_of_nonneg h0, z_bmod ⟨by omega, by omega⟩, z_ofI ⟨by omega, by omega⟩]
theorem z_divR {a b : Int} (ha : zInR a) (h0 : 0 ≤ a) (h1 : 0 < b) : zInR (a / b) := by
  have h2 : 0 ≤ a / b := Int.ediv_nonneg h0 (by omega)
  have h3 : a / b ≤ a := Int.ediv_le_self b h0
  exact ⟨by omega, by omega⟩
theorem z_remR {a b : Int} (hb : zInR b) (h1 : 0 < b) : zInR (a % b) := by
  have h2 := Int.emod_nonneg a (show b ≠ 0 by omega)
  have h3 := Int.emod_lt_of_pos a h1
  exact ⟨by omega, by omega⟩
def zand (a b : Int) : Int := (Int32.ofInt a &&& Int32.ofInt b).toInt
def zor (a b : Int) : Int := (Int32.ofInt a ||| Int32.ofInt b).toInt
def zxor (a b : Int) : Int := (Int32.ofInt a ^^^ Int32.ofInt b).toInt
def zshl (a b : Int) : Int := (Int32.ofInt a <<< (Int32.ofInt b &&& 31)).toInt
def zshr (a b : Int) : Int := (Int32.ofInt a >>> (Int32.ofInt b &&& 31)).toInt
def zushr (a b : Int) : Int := (((Int32.ofInt a).toUInt32 >>> ((Int32.ofInt b).toUInt32 &&& Int32.toUInt32 31)).toInt32).toInt
def zi2b (a : Int) : Int := ((Int32.ofInt a).toInt8.toInt32).toInt

theorem VP.iadd {a b : Int} (hd : decode (zBy y) pc = .ok (.iadd, 1)) (hx : zInR (a + b)) (k : VP y (pc + 1) ls (.inl (a + b) :: st) n ac av hi hr Q) : VP y pc ls (.inl b :: .inl a :: st) n ac av hi hr Q := by
  intro p l e s m args below meth c H locs cells slots D cy B lsr C L S G
  obtain ⟨hb, S1⟩ := List.forall_mem_cons.mp S
  obtain ⟨ha, S2⟩ := List.forall_mem_cons.mp S1
  have K := k p l e s m args below meth c H locs cells slots D cy B lsr C L (zok_cons (v := .inl (a + b)) hx S2) G
  refine lv_iadd C.1 C.2.1 hd ?_
  rw [z_add]; exact K

theorem VP.isub {a b : Int} (hd : decode (zBy y) pc = .ok (.isub, 1)) (hx : zInR (a - b)) (k : VP y (pc + 1) ls (.inl (a - b) :: st) n ac av hi hr Q) : VP y pc ls (.inl b :: .inl a :: st) n ac av hi hr Q := by
  intro p l e s m args below meth c H locs cells slots D cy B lsr C L S G
  obtain ⟨hb, S1⟩ := List.forall_mem_cons.mp S
  obtain ⟨ha, S2⟩ := List.forall_mem_cons.mp S1
  have K := k p l e s m args below meth c H locs cells slots D cy B lsr C L (zok_cons (v := .inl (a - b)) hx S2) G
  refine lv_isub C.1 C.2.1 hd ?_
  rw [z_sub]; exact K

theorem VP.imul {a b : Int} (hd : decode (zBy y) pc = .ok (.imul, 1)) (hx : zInR (a * b)) (k : VP y (pc + 1) ls (.inl (a * b) :: st) n ac av hi hr Q) : VP y pc ls (.inl b :: .inl a :: st) n ac av hi hr Q := by
  intro p l e s m args below meth c H locs cells slots D cy B lsr C L S G
  obtain ⟨hb, S1⟩ := List.forall_mem_cons.mp S
  obtain ⟨ha, S2⟩ := List.forall_mem_cons.mp S1
  have K := k p l e s m args below meth c H locs cells slots D cy B lsr C L (zok_cons (v := .inl (a * b)) hx S2) G
  refine lv_imul C.1 C.2.1 hd ?_
  rw [z_mul]; exact K

theorem VP.idiv {a b : Int} (hd : decode (zBy y) pc = .ok (.idiv, 1)) (h0 : 0 ≤ a) (h1 : 0 < b) (k : VP y (pc + 1) ls (.inl (a / b) :: st) n ac av hi hr Q) : VP y pc ls (.inl b :: .inl a :: st) n ac av hi hr Q := by
  intro p l e s m args below meth c H locs cells slots D cy B lsr C L S G
  obtain ⟨hb, S1⟩ := List.forall_mem_cons.mp S
  obtain ⟨ha, S2⟩ := List.forall_mem_cons.mp S1
  have K := k p l e s m args below meth c H locs cells slots D cy B lsr C L (zok_cons (v := .inl (a / b)) (z_divR ha h0 h1) S2) G
  refine lv_idiv C.1 C.2.1 hd (fun h => by rw [z_0, z_eq hb (by decide)] at h; omega) ?_
  rw [z_div ha hb h0 h1]; exact K

theorem VP.irem {a b : Int} (hd : decode (zBy y) pc = .ok (.irem, 1)) (h0 : 0 ≤ a) (h1 : 0 < b) (k : VP y (pc + 1) ls (.inl (a % b) :: st) n ac av hi hr Q) : VP y pc ls (.inl b :: .inl a :: st) n ac av hi hr Q := by
  intro p l e s m args below meth c H locs cells slots D cy B lsr C L S G
  obtain ⟨hb, S1⟩ := List.forall_mem_cons.mp S
  obtain ⟨ha, S2⟩ := List.forall_mem_cons.mp S1
  have K := k p l e s m args below meth c H locs cells slots D cy B lsr C L (zok_cons (v := .inl (a % b)) (z_remR hb h1) S2) G
  refine lv_irem C.1 C.2.1 hd (fun h => by rw [z_0, z_eq hb (by decide)] at h; omega) ?_
  rw [z_div ha hb h0 h1, z_mul, z_sub, show a - a / b * b = a % b by rw [Int.emod_def, Int.mul_comm]]; exact K

theorem VP.iand {a b : Int} (hd : decode (zBy y) pc = .ok (.iand, 1)) (k : VP y (pc + 1) ls (.inl (zand a b) :: st) n ac av hi hr Q) : VP y pc ls (.inl b :: .inl a :: st) n ac av hi hr Q := by
  intro p l e s m args below meth c H locs cells slots D cy B lsr C L S G
  obtain ⟨hb, S1⟩ := List.forall_mem_cons.mp S
  obtain ⟨ha, S2⟩ := List.forall_mem_cons.mp S1
  have K := k p l e s m args below meth c H locs cells slots D cy B lsr C L (zok_cons (v := .inl (zand a b)) (z_toI _) S2) G
  refine lv_iand C.1 C.2.1 hd ?_
  have K : W p l e (zRm y) s m args below meth c H locs cells slots _ (F0 m (pc + 1) lsr (.int (Int32.ofInt (zand a b)) :: st.map (zv B))) := K
  rw [zand, Int32.ofInt_toInt] at K; exact K

theorem VP.ior {a b : Int} (hd : decode (zBy y) pc = .ok (.ior, 1)) (k : VP y (pc + 1) ls (.inl (zor a b) :: st) n ac av hi hr Q) : VP y pc ls (.inl b :: .inl a :: st) n ac av hi hr Q := by
  intro p l e s m args below meth c H locs cells slots D cy B lsr C L S G
  obtain ⟨hb, S1⟩ := List.forall_mem_cons.mp S
  obtain ⟨ha, S2⟩ := List.forall_mem_cons.mp S1
  have K := k p l e s m args below meth c H locs cells slots D cy B lsr C L (zok_cons (v := .inl (zor a b)) (z_toI _) S2) G
  refine lv_ior C.1 C.2.1 hd ?_
  have K : W p l e (zRm y) s m args below meth c H locs cells slots _ (F0 m (pc + 1) lsr (.int (Int32.ofInt (zor a b)) :: st.map (zv B))) := K
  rw [zor, Int32.ofInt_toInt] at K; exact K

theorem VP.ixor {a b : Int} (hd : decode (zBy y) pc = .ok (.ixor, 1)) (k : VP y (pc + 1) ls (.inl (zxor a b) :: st) n ac av hi hr Q) : VP y pc ls (.inl b :: .inl a :: st) n ac av hi hr Q := by
  intro p l e s m args below meth c H locs cells slots D cy B lsr C L S G
  obtain ⟨hb, S1⟩ := List.forall_mem_cons.mp S
  obtain ⟨ha, S2⟩ := List.forall_mem_cons.mp S1
  have K := k p l e s m args below meth c H locs cells slots D cy B lsr C L (zok_cons (v := .inl (zxor a b)) (z_toI _) S2) G
  refine lv_ixor C.1 C.2.1 hd ?_
  have K : W p l e (zRm y) s m args below meth c H locs cells slots _ (F0 m (pc + 1) lsr (.int (Int32.ofInt (zxor a b)) :: st.map (zv B))) := K
  rw [zxor, Int32.ofInt_toInt] at K; exact K

theorem VP.ishl {a b : Int} (hd : decode (zBy y) pc = .ok (.ishl, 1)) (k : VP y (pc + 1) ls (.inl (zshl a b) :: st) n ac av hi hr Q) : VP y pc ls (.inl b :: .inl a :: st) n ac av hi hr Q := by
  intro p l e s m args below meth c H locs cells slots D cy B lsr C L S G
  obtain ⟨hb, S1⟩ := List.forall_mem_cons.mp S
  obtain ⟨ha, S2⟩ := List.forall_mem_cons.mp S1
  have K := k p l e s m args below meth c H locs cells slots D cy B lsr C L (zok_cons (v := .inl (zshl a b)) (z_toI _) S2) G
  refine lv_ishl C.1 C.2.1 hd ?_
  have K : W p l e (zRm y) s m args below meth c H locs cells slots _ (F0 m (pc + 1) lsr (.int (Int32.ofInt (zshl a b)) :: st.map (zv B))) := K
  rw [zshl, Int32.ofInt_toInt] at K; exact K

theorem VP.ishr {a b : Int} (hd : decode (zBy y) pc = .ok (.ishr, 1)) (k : VP y (pc + 1) ls (.inl (zshr a b) :: st) n ac av hi hr Q) : VP y pc ls (.inl b :: .inl a :: st) n ac av hi hr Q := by
  intro p l e s m args below meth c H locs cells slots D cy B lsr C L S G
  obtain ⟨hb, S1⟩ := List.forall_mem_cons.mp S
  obtain ⟨ha, S2⟩ := List.forall_mem_cons.mp S1
  have K := k p l e s m args below meth c H locs cells slots D cy B lsr C L (zok_cons (v := .inl (zshr a b)) (z_toI _) S2) G
  refine lv_ishr C.1 C.2.1 hd ?_
  have K : W p l e (zRm y) s m args below meth c H locs cells slots _ (F0 m (pc + 1) lsr (.int (Int32.ofInt (zshr a b)) :: st.map (zv B))) := K
  rw [zshr, Int32.ofInt_toInt] at K; exact K

theorem VP.iushr {a b : Int} (hd : decode (zBy y) pc = .ok (.iushr, 1)) (k : VP y (pc + 1) ls (.inl (zushr a b) :: st) n ac av hi hr Q) : VP y pc ls (.inl b :: .inl a :: st) n ac av hi hr Q := by
  intro p l e s m args below meth c H locs cells slots D cy B lsr C L S G
  obtain ⟨hb, S1⟩ := List.forall_mem_cons.mp S
  obtain ⟨ha, S2⟩ := List.forall_mem_cons.mp S1
  exact lv_iushr (v := Int32.ofInt (zushr a b)) C.1 C.2.1 hd (by rw [zushr, Int32.ofInt_toInt]) (k p l e s m args below meth c H locs cells slots D cy B lsr C L (zok_cons (v := .inl (zushr a b)) (z_toI _) S2) G)
theorem VP.i2b {a : Int} (hd : decode (zBy y) pc = .ok (.i2b, 1)) (k : VP y (pc + 1) ls (.inl (zi2b a) :: st) n ac av hi hr Q) : VP y pc ls (.inl a :: st) n ac av hi hr Q := by
  intro p l e s m args below meth c H locs cells slots D cy B lsr C L S G
  obtain ⟨ha, S2⟩ := List.forall_mem_cons.mp S
  exact lv_i2b (v := Int32.ofInt (zi2b a)) C.1 C.2.1 hd (by rw [zi2b, Int32.ofInt_toInt]) (k p l e s m args below meth c H locs cells slots D cy B lsr C L (zok_cons (v := .inl (zi2b a)) (z_toI _) S2) G)
theorem VP.dup {v : zV} (hd : decode (zBy y) pc = .ok (.dup, 1)) (k : VP y (pc + 1) ls (v :: v :: st) n ac av hi hr Q) (h1 : zc v = 1 := by rfl) : VP y pc ls (v :: st) n ac av hi hr Q := by
  intro p l e s m args below meth c H locs cells slots D cy B lsr C L S G
  exact lv_dup C.1 C.2.1 hd ((zv_cat B v).trans h1) (k p l e s m args below meth c H locs cells slots D cy B lsr C L (zok_cons (List.forall_mem_cons.mp S).1 S) G)
theorem VP.dup2 {v u : zV} (hd : decode (zBy y) pc = .ok (.dup2, 1)) (k : VP y (pc + 1) ls (v :: u :: v :: u :: st) n ac av hi hr Q) (e1 : zc v = 1 := by rfl) (e2 : zc u = 1 := by rfl) : VP y pc ls (v :: u :: st) n ac av hi hr Q := by
  intro p l e s m args below meth c H locs cells slots D cy B lsr C L S G
  obtain ⟨h1, S1⟩ := List.forall_mem_cons.mp S
  obtain ⟨h2, S2⟩ := List.forall_mem_cons.mp S1
  exact lv_dup2_11 C.1 C.2.1 hd ((zv_cat B v).trans e1) ((zv_cat B u).trans e2) (k p l e s m args below meth c H locs cells slots D cy B lsr C L (zok_cons h1 (zok_cons h2 S)) G)
theorem VP.pop {v : zV} (hd : decode (zBy y) pc = .ok (.pop, 1)) (k : VP y (pc + 1) ls st n ac av hi hr Q) (h1 : zc v = 1 := by rfl) : VP y pc ls (v :: st) n ac av hi hr Q := by
  intro p l e s m args below meth c H locs cells slots D cy B lsr C L S G
  exact lv_pop C.1 C.2.1 hd ((zv_cat B v).trans h1) (k p l e s m args below meth c H locs cells slots D cy B lsr C L (List.forall_mem_cons.mp S).2 G)
theorem VP.goto {off : Int} {tgt : Nat} (hd : decode (zBy y) pc = .ok (.goto off, 3)) (ht : (pc : Int) + off = (tgt : Int)) (k : VP y tgt ls st n ac av hi hr Q) : VP y pc ls st n ac av hi hr Q := by
  intro p l e s m args below meth c H locs cells slots D cy B lsr C L S G
  exact lv_goto C.1 C.2.1 hd ht (k p l e s m args below meth c H locs cells slots D cy B lsr C L S G)

theorem VP.if_eq {a : Int} {off : Int} {tgt : Nat} (hd : decode (zBy y) pc = .ok (.ifCond .eq off, 3)) (ht : (pc : Int) + off = (tgt : Int)) (kt : a = 0 → VP y tgt ls st n ac av hi hr Q) (kf : a ≠ 0 → VP y (pc + 3) ls st n ac av hi hr Q) : VP y pc ls (.inl a :: st) n ac av hi hr Q := by
  intro p l e s m args below meth c H locs cells slots D cy B lsr C L S G
  obtain ⟨ha, S2⟩ := List.forall_mem_cons.mp S
  exact lv_if_eq C.1 C.2.1 hd ht (fun h => kt (by rw [z_0, z_eq ha (by decide)] at h; exact h) p l e s m args below meth c H locs cells slots D cy B lsr C L S2 G) (fun h => kf (by rw [z_0, z_eq ha (by decide)] at h; exact h) p l e s m args below meth c H locs cells slots D cy B lsr C L S2 G)

theorem VP.if_ne {a : Int} {off : Int} {tgt : Nat} (hd : decode (zBy y) pc = .ok (.ifCond .ne off, 3)) (ht : (pc : Int) + off = (tgt : Int)) (kt : a ≠ 0 → VP y tgt ls st n ac av hi hr Q) (kf : a = 0 → VP y (pc + 3) ls st n ac av hi hr Q) : VP y pc ls (.inl a :: st) n ac av hi hr Q := by
  intro p l e s m args below meth c H locs cells slots D cy B lsr C L S G
  obtain ⟨ha, S2⟩ := List.forall_mem_cons.mp S
  exact lv_if_ne C.1 C.2.1 hd ht (fun h => kt (by rw [z_0, z_eq ha (by decide)] at h; exact h) p l e s m args below meth c H locs cells slots D cy B lsr C L S2 G) (fun h => kf (by rw [z_0, z_eq ha (by decide)] at h; exact h) p l e s m args below meth c H locs cells slots D cy B lsr C L S2 G)

theorem VP.if_lt {a : Int} {off : Int} {tgt : Nat} (hd : decode (zBy y) pc = .ok (.ifCond .lt off, 3)) (ht : (pc : Int) + off = (tgt : Int)) (kt : a < 0 → VP y tgt ls st n ac av hi hr Q) (kf : 0 ≤ a → VP y (pc + 3) ls st n ac av hi hr Q) : VP y pc ls (.inl a :: st) n ac av hi hr Q := by
  intro p l e s m args below meth c H locs cells slots D cy B lsr C L S G
  obtain ⟨ha, S2⟩ := List.forall_mem_cons.mp S
  exact lv_if_lt C.1 C.2.1 hd ht (fun h => kt (by rw [z_0, z_lt ha (by decide)] at h; exact h) p l e s m args below meth c H locs cells slots D cy B lsr C L S2 G) (fun h => kf (by rw [z_0, z_lt ha (by decide)] at h; omega) p l e s m args below meth c H locs cells slots D cy B lsr C L S2 G)

theorem VP.if_ge {a : Int} {off : Int} {tgt : Nat} (hd : decode (zBy y) pc = .ok (.ifCond .ge off, 3)) (ht : (pc : Int) + off = (tgt : Int)) (kt : 0 ≤ a → VP y tgt ls st n ac av hi hr Q) (kf : a < 0 → VP y (pc + 3) ls st n ac av hi hr Q) : VP y pc ls (.inl a :: st) n ac av hi hr Q := by
  intro p l e s m args below meth c H locs cells slots D cy B lsr C L S G
  obtain ⟨ha, S2⟩ := List.forall_mem_cons.mp S
  exact lv_if_ge C.1 C.2.1 hd ht (fun h => kt (by rw [z_0, z_le (by decide) ha] at h; exact h) p l e s m args below meth c H locs cells slots D cy B lsr C L S2 G) (fun h => kf (by rw [z_0, z_le (by decide) ha] at h; omega) p l e s m args below meth c H locs cells slots D cy B lsr C L S2 G)

theorem VP.if_gt {a : Int} {off : Int} {tgt : Nat} (hd : decode (zBy y) pc = .ok (.ifCond .gt off, 3)) (ht : (pc : Int) + off = (tgt : Int)) (kt : 0 < a → VP y tgt ls st n ac av hi hr Q) (kf : a ≤ 0 → VP y (pc + 3) ls st n ac av hi hr Q) : VP y pc ls (.inl a :: st) n ac av hi hr Q := by
  intro p l e s m args below meth c H locs cells slots D cy B lsr C L S G
  obtain ⟨ha, S2⟩ := List.forall_mem_cons.mp S
  exact lv_if_gt C.1 C.2.1 hd ht (fun h => kt (by rw [z_0, z_lt (by decide) ha] at h; exact h) p l e s m args below meth c H locs cells slots D cy B lsr C L S2 G) (fun h => kf (by rw [z_0, z_lt (by decide) ha] at h; omega) p l e s m args below meth c H locs cells slots D cy B lsr C L S2 G)

theorem VP.if_le {a : Int} {off : Int} {tgt : Nat} (hd : decode (zBy y) pc = .ok (.ifCond .le off, 3)) (ht : (pc : Int) + off = (tgt : Int)) (kt : a ≤ 0 → VP y tgt ls st n ac av hi hr Q) (kf : 0 < a → VP y (pc + 3) ls st n ac av hi hr Q) : VP y pc ls (.inl a :: st) n ac av hi hr Q := by
  intro p l e s m args below meth c H locs cells slots D cy B lsr C L S G
  obtain ⟨ha, S2⟩ := List.forall_mem_cons.mp S
  exact lv_if_le C.1 C.2.1 hd ht (fun h => kt (by rw [z_0, z_le ha (by decide)] at h; exact h) p l e s m args below meth c H locs cells slots D cy B lsr C L S2 G) (fun h => kf (by rw [z_0, z_le ha (by decide)] at h; omega) p l e s m args below meth c H locs cells slots D cy B lsr C L S2 G)

theorem VP.icmp_eq {a b : Int} {off : Int} {tgt : Nat} (hd : decode (zBy y) pc = .ok (.if_icmp .eq off, 3)) (ht : (pc : Int) + off = (tgt : Int)) (kt : a = b → VP y tgt ls st n ac av hi hr Q) (kf : a ≠ b → VP y (pc + 3) ls st n ac av hi hr Q) : VP y pc ls (.inl b :: .inl a :: st) n ac av hi hr Q := by
  intro p l e s m args below meth c H locs cells slots D cy B lsr C L S G
  obtain ⟨hb, S1⟩ := List.forall_mem_cons.mp S
  obtain ⟨ha, S2⟩ := List.forall_mem_cons.mp S1
  exact lv_icmp_eq C.1 C.2.1 hd ht (fun h => kt (by rw [z_eq ha hb] at h; exact h) p l e s m args below meth c H locs cells slots D cy B lsr C L S2 G) (fun h => kf (by rw [z_eq ha hb] at h; exact h) p l e s m args below meth c H locs cells slots D cy B lsr C L S2 G)

theorem VP.icmp_ne {a b : Int} {off : Int} {tgt : Nat} (hd : decode (zBy y) pc = .ok (.if_icmp .ne off, 3)) (ht : (pc : Int) + off = (tgt : Int)) (kt : a ≠ b → VP y tgt ls st n ac av hi hr Q) (kf : a = b → VP y (pc + 3) ls st n ac av hi hr Q) : VP y pc ls (.inl b :: .inl a :: st) n ac av hi hr Q := by
  intro p l e s m args below meth c H locs cells slots D cy B lsr C L S G
  obtain ⟨hb, S1⟩ := List.forall_mem_cons.mp S
  obtain ⟨ha, S2⟩ := List.forall_mem_cons.mp S1
  exact lv_icmp_ne C.1 C.2.1 hd ht (fun h => kt (by rw [z_eq ha hb] at h; exact h) p l e s m args below meth c H locs cells slots D cy B lsr C L S2 G) (fun h => kf (by rw [z_eq ha hb] at h; exact h) p l e s m args below meth c H locs cells slots D cy B lsr C L S2 G)

theorem VP.icmp_lt {a b : Int} {off : Int} {tgt : Nat} (hd : decode (zBy y) pc = .ok (.if_icmp .lt off, 3)) (ht : (pc : Int) + off = (tgt : Int)) (kt : a < b → VP y tgt ls st n ac av hi hr Q) (kf : b ≤ a → VP y (pc + 3) ls st n ac av hi hr Q) : VP y pc ls (.inl b :: .inl a :: st) n ac av hi hr Q := by
  intro p l e s m args below meth c H locs cells slots D cy B lsr C L S G
  obtain ⟨hb, S1⟩ := List.forall_mem_cons.mp S
  obtain ⟨ha, S2⟩ := List.forall_mem_cons.mp S1
  exact lv_icmp_lt C.1 C.2.1 hd ht (fun h => kt (by rw [z_lt ha hb] at h; exact h) p l e s m args below meth c H locs cells slots D cy B lsr C L S2 G) (fun h => kf (by rw [z_lt ha hb] at h; omega) p l e s m args below meth c H locs cells slots D cy B lsr C L S2 G)

theorem VP.icmp_ge {a b : Int} {off : Int} {tgt : Nat} (hd : decode (zBy y) pc = .ok (.if_icmp .ge off, 3)) (ht : (pc : Int) + off = (tgt : Int)) (kt : b ≤ a → VP y tgt ls st n ac av hi hr Q) (kf : a < b → VP y (pc + 3) ls st n ac av hi hr Q) : VP y pc ls (.inl b :: .inl a :: st) n ac av hi hr Q := by
  intro p l e s m args below meth c H locs cells slots D cy B lsr C L S G
  obtain ⟨hb, S1⟩ := List.forall_mem_cons.mp S
  obtain ⟨ha, S2⟩ := List.forall_mem_cons.mp S1
  exact lv_icmp_ge C.1 C.2.1 hd ht (fun h => kt (by rw [z_le hb ha] at h; exact h) p l e s m args below meth c H locs cells slots D cy B lsr C L S2 G) (fun h => kf (by rw [z_le hb ha] at h; omega) p l e s m args below meth c H locs cells slots D cy B lsr C L S2 G)

theorem VP.icmp_gt {a b : Int} {off : Int} {tgt : Nat} (hd : decode (zBy y) pc = .ok (.if_icmp .gt off, 3)) (ht : (pc : Int) + off = (tgt : Int)) (kt : b < a → VP y tgt ls st n ac av hi hr Q) (kf : a ≤ b → VP y (pc + 3) ls st n ac av hi hr Q) : VP y pc ls (.inl b :: .inl a :: st) n ac av hi hr Q := by
  intro p l e s m args below meth c H locs cells slots D cy B lsr C L S G
  obtain ⟨hb, S1⟩ := List.forall_mem_cons.mp S
  obtain ⟨ha, S2⟩ := List.forall_mem_cons.mp S1
  exact lv_icmp_gt C.1 C.2.1 hd ht (fun h => kt (by rw [z_lt hb ha] at h; exact h) p l e s m args below meth c H locs cells slots D cy B lsr C L S2 G) (fun h => kf (by rw [z_lt hb ha] at h; omega) p l e s m args below meth c H locs cells slots D cy B lsr C L S2 G)

theorem VP.icmp_le {a b : Int} {off : Int} {tgt : Nat} (hd : decode (zBy y) pc = .ok (.if_icmp .le off, 3)) (ht : (pc : Int) + off = (tgt : Int)) (kt : a ≤ b → VP y tgt ls st n ac av hi hr Q) (kf : b < a → VP y (pc + 3) ls st n ac av hi hr Q) : VP y pc ls (.inl b :: .inl a :: st) n ac av hi hr Q := by
  intro p l e s m args below meth c H locs cells slots D cy B lsr C L S G
  obtain ⟨hb, S1⟩ := List.forall_mem_cons.mp S
  obtain ⟨ha, S2⟩ := List.forall_mem_cons.mp S1
  exact lv_icmp_le C.1 C.2.1 hd ht (fun h => kt (by rw [z_le ha hb] at h; exact h) p l e s m args below meth c H locs cells slots D cy B lsr C L S2 G) (fun h => kf (by rw [z_le ha hb] at h; omega) p l e s m args below meth c H locs cells slots D cy B lsr C L S2 G)

theorem VP.ifnull {o : Option (Nat × Int)} {off : Int} {tgt : Nat} (hd : decode (zBy y) pc = .ok (.ifnull off, 3)) (ht : (pc : Int) + off = (tgt : Int)) (kt : o = none → VP y tgt ls st n ac av hi hr Q) (kf : ∀ q, o = some q → VP y (pc + 3) ls st n ac av hi hr Q) : VP y pc ls (.inr o :: st) n ac av hi hr Q := by
  intro p l e s m args below meth c H locs cells slots D cy B lsr C L S G
  obtain ⟨ha, S2⟩ := List.forall_mem_cons.mp S
  cases o with
  | none => exact lv_ifnullN C.1 C.2.1 hd ht (kt rfl p l e s m args below meth c H locs cells slots D cy B lsr C L S2 G)
  | some q => exact lv_ifnull C.1 C.2.1 hd (kf q rfl p l e s m args below meth c H locs cells slots D cy B lsr C L S2 G)
theorem VP.ifnonnull {o : Option (Nat × Int)} {off : Int} {tgt : Nat} (hd : decode (zBy y) pc = .ok (.ifnonnull off, 3)) (ht : (pc : Int) + off = (tgt : Int)) (kt : ∀ q, o = some q → VP y tgt ls st n ac av hi hr Q) (kf : o = none → VP y (pc + 3) ls st n ac av hi hr Q) : VP y pc ls (.inr o :: st) n ac av hi hr Q := by
  intro p l e s m args below meth c H locs cells slots D cy B lsr C L S G
  obtain ⟨ha, S2⟩ := List.forall_mem_cons.mp S
  cases o with
  | none => exact lv_ifnonnullN C.1 C.2.1 hd (kf rfl p l e s m args below meth c H locs cells slots D cy B lsr C L S2 G)
  | some q => exact lv_ifnonnull C.1 C.2.1 hd ht (kt q rfl p l e s m args below meth c H locs cells slots D cy B lsr C L S2 G)
theorem VP.tsw {a dflt lo hi' : Int} {offs : Array Int} {len : Nat} (hd : decode (zBy y) pc = .ok (.tableswitch dflt lo hi' offs, len)) (ko : a < lo ∨ hi' < a → ∃ tgt : Nat, (pc : Int) + dflt = (tgt : Int) ∧ VP y tgt ls st n ac av hi hr Q)
    (ki : lo ≤ a → a ≤ hi' → ∃ (off : Int) (tgt : Nat), offs[(a - lo).toNat]? = some off ∧ (pc : Int) + off = (tgt : Int) ∧ VP y tgt ls st n ac av hi hr Q) : VP y pc ls (.inl a :: st) n ac av hi hr Q := by
  intro p l e s m args below meth c H locs cells slots D cy B lsr C L S G
  obtain ⟨ha, S2⟩ := List.forall_mem_cons.mp S
  by_cases h : a < lo ∨ hi' < a
  · obtain ⟨tgt, h1, k⟩ := ko h
    exact lv_tableOut C.1 C.2.1 hd (by rw [z_ofI ha]; exact h) h1 (k p l e s m args below meth c H locs cells slots D cy B lsr C L S2 G)
  · obtain ⟨off, tgt, h1, h2, k⟩ := ki (by omega) (by omega)
    exact lv_tableIn C.1 C.2.1 hd (by rw [z_ofI ha]; omega) (by rw [z_ofI ha]; omega) (by rw [z_ofI ha]; exact h1) h2 (k p l e s m args below meth c H locs cells slots D cy B lsr C L S2 G)
theorem VP.lsw {a dflt : Int} {ps : Array (Int × Int)} {len tgt : Nat} (hd : decode (zBy y) pc = .ok (.lookupswitch dflt ps, len)) (hp : (ps.toList.zip (ps.toList.drop 1)).all (fun (a, next) => a.1 < next.1) = true) (ht : (pc : Int) + Op.lookupswitch.offset ps.toList dflt a = (tgt : Int)) (k : VP y tgt ls st n ac av hi hr Q) : VP y pc ls (.inl a :: st) n ac av hi hr Q := by
  intro p l e s m args below meth c H locs cells slots D cy B lsr C L S G
  obtain ⟨ha, S2⟩ := List.forall_mem_cons.mp S
  exact lv_lookup C.1 C.2.1 hd hp (by rw [z_ofI ha]) ht (k p l e s m args below meth c H locs cells slots D cy B lsr C L S2 G)

def zland (a b : Int) : Int := (Int64.ofInt a &&& Int64.ofInt b).toInt
def zlor (a b : Int) : Int := (Int64.ofInt a ||| Int64.ofInt b).toInt
def zlxor (a b : Int) : Int := (Int64.ofInt a ^^^ Int64.ofInt b).toInt
def zlshl (a b : Int) : Int := (Int64.ofInt a <<< ((Int32.ofInt b).toInt64 &&& 63)).toInt
def zlushr (a b : Int) : Int := (((Int64.ofInt a).toUInt64 >>> ((Int32.ofInt b).toInt64.toUInt64 &&& Int64.toUInt64 63)).toInt64).toInt
def zlcmp (a b : Int) : Int := (lg_cmp (Int64.ofInt a) (Int64.ofInt b)).toInt
theorem zl_b (x : Int64) : Int64.ofInt x.toInt = x := Int64.ofInt_toInt x
theorem VP.ldc2 {x : Int} {index : Nat} (hc : Cond.constantLong (zNm y).cls index (Int64.ofInt x) ∈ zTb) (hd : decode (zBy y) pc = .ok (.ldc2_w index, 3)) (k : VP y (pc + 3) ls (.lo x :: st) n ac av hi hr Q) : VP y pc ls st n ac av hi hr Q := by
  intro p l e s m args below meth c H locs cells slots D cy B lsr C L S G
  exact lv_ldc2 C.1 C.2.1 C.2.2.2.2.1 (C.2.2.2.2.2.1 _ hc) hd (k p l e s m args below meth c H locs cells slots D cy B lsr C L (zok_cons (v := .lo x) trivial S) G)
theorem VP.lconst {x : Int} {i : Fin 2} (hx : ((i : Nat) : Int) = x) (hd : decode (zBy y) pc = .ok (.lconst i, 1)) (k : VP y (pc + 1) ls (.lo x :: st) n ac av hi hr Q) : VP y pc ls st n ac av hi hr Q := by
  intro p l e s m args below meth c H locs cells slots D cy B lsr C L S G
  exact lv_lconst (v := Int64.ofInt x) C.1 C.2.1 hd (by rw [← hx]; rfl) (k p l e s m args below meth c H locs cells slots D cy B lsr C L (zok_cons (v := .lo x) trivial S) G)
theorem VP.lload_n {i : Fin 4} {x : Int} (hd : decode (zBy y) pc = .ok (.lload_n i, 1)) (hl : ls[(i : Nat)]? = some (some (.lo x))) (hl2 : ls[(i : Nat) + 1]? = some none) (k : VP y (pc + 1) ls (.lo x :: st) n ac av hi hr Q) : VP y pc ls st n ac av hi hr Q := by
  intro p l e s m args below meth c H locs cells slots D cy B lsr C L S G
  exact lv_lload_n C.1 C.2.1 hd rfl (L.at hl (Or.inr hl2)) (k p l e s m args below meth c H locs cells slots D cy B lsr C L (zok_cons (L.2.2 _ _ hl) S) G)
theorem VP.lload {i : Nat} {x : Int} (hd : decode (zBy y) pc = .ok (.lload i, 2)) (hl : ls[i]? = some (some (.lo x))) (hl2 : ls[i + 1]? = some none) (k : VP y (pc + 2) ls (.lo x :: st) n ac av hi hr Q) : VP y pc ls st n ac av hi hr Q := by
  intro p l e s m args below meth c H locs cells slots D cy B lsr C L S G
  exact lv_lload C.1 C.2.1 hd (L.at hl (Or.inr hl2)) (k p l e s m args below meth c H locs cells slots D cy B lsr C L (zok_cons (L.2.2 _ _ hl) S) G)
theorem VP.lstore_n {i : Fin 4} {x : Int} (hd : decode (zBy y) pc = .ok (.lstore_n i, 1)) (hn : (i : Nat) + 1 < zMx y) (k : VP y (pc + 1) ((ls.set (i : Nat) (some (.lo x))).set ((i : Nat) + 1) none) st n ac av hi hr Q) : VP y pc ls (.lo x :: st) n ac av hi hr Q := by
  intro p l e s m args below meth c H locs cells slots D cy B lsr C L S G
  obtain ⟨h1, h2⟩ := List.forall_mem_cons.mp S
  exact lv_lstore_n C.1 C.2.1 hd rfl L.2.1 hn rfl (fun ls' h' => k p l e s m args below meth c H locs cells slots D cy B ls' C (L.put2 h1 h') h2 G)
theorem VP.lstore {i : Nat} {x : Int} (hd : decode (zBy y) pc = .ok (.lstore i, 2)) (hn : i + 1 < zMx y) (k : VP y (pc + 2) ((ls.set i (some (.lo x))).set (i + 1) none) st n ac av hi hr Q) : VP y pc ls (.lo x :: st) n ac av hi hr Q := by
  intro p l e s m args below meth c H locs cells slots D cy B lsr C L S G
  obtain ⟨h1, h2⟩ := List.forall_mem_cons.mp S
  exact lv_lstore C.1 C.2.1 hd L.2.1 hn rfl (fun ls' h' => k p l e s m args below meth c H locs cells slots D cy B ls' C (L.put2 h1 h') h2 G)

theorem VP.land {a b : Int} (hd : decode (zBy y) pc = .ok (.land, 1)) (k : VP y (pc + 1) ls (.lo (zland a b) :: st) n ac av hi hr Q) : VP y pc ls (.lo b :: .lo a :: st) n ac av hi hr Q := by
  intro p l e s m args below meth c H locs cells slots D cy B lsr C L S G
  obtain ⟨hb, S1⟩ := List.forall_mem_cons.mp S
  obtain ⟨ha, S2⟩ := List.forall_mem_cons.mp S1
  have K : W p l e (zRm y) s m args below meth c H locs cells slots _ (F0 m (pc + 1) lsr (.long (Int64.ofInt (zland a b)) :: st.map (zv B))) := k p l e s m args below meth c H locs cells slots D cy B lsr C L (zok_cons (v := .lo (zland a b)) trivial S2) G
  rw [zland, zl_b] at K
  exact lv_land C.1 C.2.1 hd K

theorem VP.lor {a b : Int} (hd : decode (zBy y) pc = .ok (.lor, 1)) (k : VP y (pc + 1) ls (.lo (zlor a b) :: st) n ac av hi hr Q) : VP y pc ls (.lo b :: .lo a :: st) n ac av hi hr Q := by
  intro p l e s m args below meth c H locs cells slots D cy B lsr C L S G
  obtain ⟨hb, S1⟩ := List.forall_mem_cons.mp S
  obtain ⟨ha, S2⟩ := List.forall_mem_cons.mp S1
  have K : W p l e (zRm y) s m args below meth c H locs cells slots _ (F0 m (pc + 1) lsr (.long (Int64.ofInt (zlor a b)) :: st.map (zv B))) := k p l e s m args below meth c H locs cells slots D cy B lsr C L (zok_cons (v := .lo (zlor a b)) trivial S2) G
  rw [zlor, zl_b] at K
  exact lv_lor C.1 C.2.1 hd K

theorem VP.lxor {a b : Int} (hd : decode (zBy y) pc = .ok (.lxor, 1)) (k : VP y (pc + 1) ls (.lo (zlxor a b) :: st) n ac av hi hr Q) : VP y pc ls (.lo b :: .lo a :: st) n ac av hi hr Q := by
  intro p l e s m args below meth c H locs cells slots D cy B lsr C L S G
  obtain ⟨hb, S1⟩ := List.forall_mem_cons.mp S
  obtain ⟨ha, S2⟩ := List.forall_mem_cons.mp S1
  have K : W p l e (zRm y) s m args below meth c H locs cells slots _ (F0 m (pc + 1) lsr (.long (Int64.ofInt (zlxor a b)) :: st.map (zv B))) := k p l e s m args below meth c H locs cells slots D cy B lsr C L (zok_cons (v := .lo (zlxor a b)) trivial S2) G
  rw [zlxor, zl_b] at K
  exact lv_lxor C.1 C.2.1 hd K

theorem VP.lshl {a b : Int} (hd : decode (zBy y) pc = .ok (.lshl, 1)) (k : VP y (pc + 1) ls (.lo (zlshl a b) :: st) n ac av hi hr Q) : VP y pc ls (.inl b :: .lo a :: st) n ac av hi hr Q := by
  intro p l e s m args below meth c H locs cells slots D cy B lsr C L S G
  obtain ⟨hb, S1⟩ := List.forall_mem_cons.mp S
  obtain ⟨ha, S2⟩ := List.forall_mem_cons.mp S1
  exact lv_lshl (v := Int64.ofInt (zlshl a b)) C.1 C.2.1 hd (by rw [zlshl, zl_b]) (k p l e s m args below meth c H locs cells slots D cy B lsr C L (zok_cons (v := .lo (zlshl a b)) trivial S2) G)

theorem VP.lushr {a b : Int} (hd : decode (zBy y) pc = .ok (.lushr, 1)) (k : VP y (pc + 1) ls (.lo (zlushr a b) :: st) n ac av hi hr Q) : VP y pc ls (.inl b :: .lo a :: st) n ac av hi hr Q := by
  intro p l e s m args below meth c H locs cells slots D cy B lsr C L S G
  obtain ⟨hb, S1⟩ := List.forall_mem_cons.mp S
  obtain ⟨ha, S2⟩ := List.forall_mem_cons.mp S1
  exact lv_lushr (v := Int64.ofInt (zlushr a b)) C.1 C.2.1 hd (by rw [zlushr, zl_b]) (k p l e s m args below meth c H locs cells slots D cy B lsr C L (zok_cons (v := .lo (zlushr a b)) trivial S2) G)

theorem VP.lcmp {a b : Int} (hd : decode (zBy y) pc = .ok (.lcmp, 1)) (k : VP y (pc + 1) ls (.inl (zlcmp a b) :: st) n ac av hi hr Q) : VP y pc ls (.lo b :: .lo a :: st) n ac av hi hr Q := by
  intro p l e s m args below meth c H locs cells slots D cy B lsr C L S G
  obtain ⟨hb, S1⟩ := List.forall_mem_cons.mp S
  obtain ⟨ha, S2⟩ := List.forall_mem_cons.mp S1
  have K : W p l e (zRm y) s m args below meth c H locs cells slots _ (F0 m (pc + 1) lsr (.int (Int32.ofInt (zlcmp a b)) :: st.map (zv B))) := k p l e s m args below meth c H locs cells slots D cy B lsr C L (zok_cons (v := .inl (zlcmp a b)) (z_toI _) S2) G
  rw [zlcmp, Int32.ofInt_toInt] at K
  exact W.lcmp C.1 C.2.1 hd K

end ZR
