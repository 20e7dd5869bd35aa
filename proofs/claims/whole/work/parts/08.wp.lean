/-! methods that make nothing: n stays -/
abbrev zP : Type := Option zV → zI → zR → Prop
def WP (y : zM) (pc : Nat) (ls : List (Option zV)) (st : List zV) (hi : zI) (hr : zR) (Q : zP) : Prop := ∀ n av, VP y pc ls st n 0 av hi hr (fun r n' hi' hr' => n' = n ∧ Q r hi' hr')
def WPm (y : zM) (vs : List zV) (hi : zI) (hr : zR) (Q : zP) : Prop := ∀ n, VPm y vs n hi hr (fun r n' hi' hr' => n' = n ∧ Q r hi' hr')
def zQ0i (hi0 : zI) (hr0 : zR) (P : Int → Prop) : zP := fun r hi hr => ∃ x, r = some (.inl x) ∧ zInR x ∧ hi = hi0 ∧ hr = hr0 ∧ P x
def zQ0v (hi0 : zI) (hr0 : zR) (P : Prop) : zP := fun r hi hr => r = none ∧ hi = hi0 ∧ hr = hr0 ∧ P
def zQ0r (hi0 : zI) (hr0 : zR) (P : Option (Nat × Int) → Prop) : zP := fun r hi hr => ∃ o, r = some (.inr o) ∧ hi = hi0 ∧ hr = hr0 ∧ P o
def zQ0l (hi0 : zI) (hr0 : zR) (P : Int → Prop) : zP := fun r hi hr => ∃ x, r = some (.lo x) ∧ hi = hi0 ∧ hr = hr0 ∧ P x
abbrev W0l (y : zM) (vs : List zV) (hi : zI) (hr : zR) (P : Int → Prop) : Prop := WPm y vs hi hr (zQ0l hi hr P)
abbrev W0i (y : zM) (vs : List zV) (hi : zI) (hr : zR) (P : Int → Prop) : Prop := WPm y vs hi hr (zQ0i hi hr P)
abbrev W0v (y : zM) (vs : List zV) (hi : zI) (hr : zR) (P : Prop) : Prop := WPm y vs hi hr (zQ0v hi hr P)
abbrev W0r (y : zM) (vs : List zV) (hi : zI) (hr : zR) (P : Option (Nat × Int) → Prop) : Prop := WPm y vs hi hr (zQ0r hi hr P)
def zQ1i (hr0 : zR) (P : Int → zI → Prop) : zP := fun r hi hr => ∃ x, r = some (.inl x) ∧ zInR x ∧ hr = hr0 ∧ P x hi
def zQ1v (hr0 : zR) (P : zI → Prop) : zP := fun r hi hr => r = none ∧ hr = hr0 ∧ P hi
def zQ1r (hr0 : zR) (P : Option (Nat × Int) → zI → Prop) : zP := fun r hi hr => ∃ o, r = some (.inr o) ∧ hr = hr0 ∧ P o hi
abbrev W1i (y : zM) (vs : List zV) (hi : zI) (hr : zR) (P : Int → zI → Prop) : Prop := WPm y vs hi hr (zQ1i hr P)
abbrev W1v (y : zM) (vs : List zV) (hi : zI) (hr : zR) (P : zI → Prop) : Prop := WPm y vs hi hr (zQ1v hr P)
abbrev W1r (y : zM) (vs : List zV) (hi : zI) (hr : zR) (P : Option (Nat × Int) → zI → Prop) : Prop := WPm y vs hi hr (zQ1r hr P)
def zQ2i (P : Int → zI → zR → Prop) : zP := fun r hi hr => ∃ x, r = some (.inl x) ∧ zInR x ∧ True ∧ P x hi hr
def zQ2v (P : zI → zR → Prop) : zP := fun r hi hr => r = none ∧ True ∧ P hi hr
def zQ2r (P : Option (Nat × Int) → zI → zR → Prop) : zP := fun r hi hr => ∃ o, r = some (.inr o) ∧ True ∧ P o hi hr
abbrev W2i (y : zM) (vs : List zV) (hi : zI) (hr : zR) (P : Int → zI → zR → Prop) : Prop := WPm y vs hi hr (zQ2i P)
abbrev W2v (y : zM) (vs : List zV) (hi : zI) (hr : zR) (P : zI → zR → Prop) : Prop := WPm y vs hi hr (zQ2v P)
abbrev W2r (y : zM) (vs : List zV) (hi : zI) (hr : zR) (P : Option (Nat × Int) → zI → zR → Prop) : Prop := WPm y vs hi hr (zQ2r P)
theorem VP.mono {y : zM} {pc : Nat} {ls : List (Option zV)} {st : List zV} {n ac av : Nat} {hi : zI} {hr : zR} {Q Q' : zQ} (h : VP y pc ls st n ac av hi hr Q) (k : ∀ r n' hi' hr', Q r n' hi' hr' → Q' r n' hi' hr') : VP y pc ls st n ac av hi hr Q' := by
  intro p l e s m args below meth c H locs cells slots D cy B lsr C L S G T hT X
  obtain ⟨t, a1, o, b1, b2, ⟨⟨r, n', hi', hr', hv, hq, rest⟩, hF⟩, b4⟩ := h p l e s m args below meth c H locs cells slots D cy B lsr C L S G T hT X
  exact ⟨t, a1, o, b1, b2, ⟨⟨r, n', hi', hr', hv, k _ _ _ _ hq, rest⟩, hF⟩, b4⟩
theorem WP.mono {y : zM} {pc : Nat} {ls : List (Option zV)} {st : List zV} {hi : zI} {hr : zR} {Q Q' : zP} (h : WP y pc ls st hi hr Q) (k : ∀ r hi' hr', Q r hi' hr' → Q' r hi' hr') : WP y pc ls st hi hr Q' := fun n av => (h n av).mono (fun r n' hi' hr' q => ⟨q.1, k _ _ _ q.2⟩)
theorem WPm.mono {y : zM} {vs : List zV} {hi : zI} {hr : zR} {Q Q' : zP} (h : WPm y vs hi hr Q) (k : ∀ r hi' hr', Q r hi' hr' → Q' r hi' hr') : WPm y vs hi hr Q' := fun n => VP.mono (h n) (fun r n' hi' hr' q => ⟨q.1, k _ _ _ q.2⟩)
theorem WPm.of {y : zM} {vs : List zV} {hi : zI} {hr : zR} {Q : zP} (hm : zMc y = 0) (h : WP y 0 (zen y vs) [] hi hr Q) : WPm y vs hi hr Q := by
  intro n
  unfold VPm
  rw [hm]
  exact h n _
/-- every int of a state is in range: locals, stack, memory -/
theorem WP.okL {y : zM} {pc : Nat} {ls : List (Option zV)} {st : List zV} {hi : zI} {hr : zR} {Q : zP} (i : Nat) {x : Int} (hl : ls[i]? = some (some (.inl x))) (k : zInR x → WP y pc ls st hi hr Q) : WP y pc ls st hi hr Q := by
  intro n av p l e s m args below meth c H locs cells slots D cy B lsr C L S G
  exact k (L.2.2 i _ hl) n av p l e s m args below meth c H locs cells slots D cy B lsr C L S G
theorem WP.okH {y : zM} {pc : Nat} {ls : List (Option zV)} {st : List zV} {hi : zI} {hr : zR} {Q : zP} (k : (∀ k j s, zIk k = true → zInR (hi k j s)) → WP y pc ls st hi hr Q) : WP y pc ls st hi hr Q := by
  intro n av p l e s m args below meth c H locs cells slots D cy B lsr C L S G
  exact k G.1.1 n av p l e s m args below meth c H locs cells slots D cy B lsr C L S G
section ZR
variable {y y' : zM} {pc : Nat} {ls : List (Option zV)} {st vs : List zV} {hi : zI} {hr : zR} {Q : zP}

theorem WP.iconst {pc2 : Nat} {x : Int} (hp : pc + 1 = pc2) (hd : decode (zBy y) pc = .ok (.iconst x, 1)) (hx : zInR x) (k : WP y pc2 ls (.inl x :: st) hi hr Q) : WP y pc ls st hi hr Q := by
  subst hp
  exact fun n av => VP.iconst hd hx (k n av)
theorem WP.bipush {pc2 : Nat} {x : Int} (hp : pc + 2 = pc2) (hd : decode (zBy y) pc = .ok (.bipush x, 2)) (hx : (Int8.ofInt x).toInt32 = Int32.ofInt x ∧ zInR x) (k : WP y pc2 ls (.inl x :: st) hi hr Q) : WP y pc ls st hi hr Q := by
  subst hp
  exact fun n av => VP.bipush hd hx (k n av)
theorem WP.sipush {pc2 : Nat} {x : Int} (hp : pc + 3 = pc2) (hd : decode (zBy y) pc = .ok (.sipush x, 3)) (hx : (Int16.ofInt x).toInt32 = Int32.ofInt x ∧ zInR x) (k : WP y pc2 ls (.inl x :: st) hi hr Q) : WP y pc ls st hi hr Q := by
  subst hp
  exact fun n av => VP.sipush hd hx (k n av)
theorem WP.ldc {pc2 : Nat} {x : Int} {index : Nat} (hp : pc + 2 = pc2) (hc : Cond.constant (zNm y).cls index (Int32.ofInt x) ∈ zTb) (hd : decode (zBy y) pc = .ok (.ldc index, 2)) (hx : zInR x) (k : WP y pc2 ls (.inl x :: st) hi hr Q) : WP y pc ls st hi hr Q := by
  subst hp
  exact fun n av => VP.ldc hc hd hx (k n av)
theorem WP.null {pc2 : Nat}  (hp : pc + 1 = pc2) (hd : decode (zBy y) pc = .ok (.aconst_null, 1)) (k : WP y pc2 ls (.inr none :: st) hi hr Q) : WP y pc ls st hi hr Q := by
  subst hp
  exact fun n av => VP.null hd (k n av)
theorem WP.iload_n {pc2 : Nat} {i : Fin 4} {x : Int} (hp : pc + 1 = pc2) (hd : decode (zBy y) pc = .ok (.iload_n i, 1)) (hl : ls[(i : Nat)]? = some (some (.inl x))) (k : WP y pc2 ls (.inl x :: st) hi hr Q) : WP y pc ls st hi hr Q := by
  subst hp
  exact fun n av => VP.iload_n hd hl (k n av)
theorem WP.iload {pc2 : Nat} {i : Nat} {x : Int} (hp : pc + 2 = pc2) (hd : decode (zBy y) pc = .ok (.iload i, 2)) (hl : ls[i]? = some (some (.inl x))) (k : WP y pc2 ls (.inl x :: st) hi hr Q) : WP y pc ls st hi hr Q := by
  subst hp
  exact fun n av => VP.iload hd hl (k n av)
theorem WP.aload_n {pc2 : Nat} {i : Fin 4} {o : Option (Nat × Int)} (hp : pc + 1 = pc2) (hd : decode (zBy y) pc = .ok (.aload_n i, 1)) (hl : ls[(i : Nat)]? = some (some (.inr o))) (k : WP y pc2 ls (.inr o :: st) hi hr Q) : WP y pc ls st hi hr Q := by
  subst hp
  exact fun n av => VP.aload_n hd hl (k n av)
theorem WP.aload {pc2 : Nat} {i : Nat} {o : Option (Nat × Int)} (hp : pc + 2 = pc2) (hd : decode (zBy y) pc = .ok (.aload i, 2)) (hl : ls[i]? = some (some (.inr o))) (k : WP y pc2 ls (.inr o :: st) hi hr Q) : WP y pc ls st hi hr Q := by
  subst hp
  exact fun n av => VP.aload hd hl (k n av)
theorem WP.istore_n {pc2 : Nat} {i : Fin 4} {x : Int} (hp : pc + 1 = pc2) (hd : decode (zBy y) pc = .ok (.istore_n i, 1)) (hn : (i : Nat) < zMx y) (k : WP y pc2 (ls.set (i : Nat) (some (.inl x))) st hi hr Q) : WP y pc ls (.inl x :: st) hi hr Q := by
  subst hp
  exact fun n av => VP.istore_n hd hn (k n av)
theorem WP.istore {pc2 : Nat} {i : Nat} {x : Int} (hp : pc + 2 = pc2) (hd : decode (zBy y) pc = .ok (.istore i, 2)) (hn : i < zMx y) (k : WP y pc2 (ls.set i (some (.inl x))) st hi hr Q) : WP y pc ls (.inl x :: st) hi hr Q := by
  subst hp
  exact fun n av => VP.istore hd hn (k n av)
theorem WP.astore_n {pc2 : Nat} {i : Fin 4} {o : Option (Nat × Int)} (hp : pc + 1 = pc2) (hd : decode (zBy y) pc = .ok (.astore_n i, 1)) (hn : (i : Nat) < zMx y) (k : WP y pc2 (ls.set (i : Nat) (some (.inr o))) st hi hr Q) : WP y pc ls (.inr o :: st) hi hr Q := by
  subst hp
  exact fun n av => VP.astore_n hd hn (k n av)
theorem WP.astore {pc2 : Nat} {i : Nat} {o : Option (Nat × Int)} (hp : pc + 2 = pc2) (hd : decode (zBy y) pc = .ok (.astore i, 2)) (hn : i < zMx y) (k : WP y pc2 (ls.set i (some (.inr o))) st hi hr Q) : WP y pc ls (.inr o :: st) hi hr Q := by
  subst hp
  exact fun n av => VP.astore hd hn (k n av)
theorem WP.iinc {pc2 : Nat} {i : Nat} {d x : Int} (hp : pc + 3 = pc2) (hd : decode (zBy y) pc = .ok (.iinc i d, 3)) (hl : ls[i]? = some (some (.inl x))) (hx : zInR (x + d)) (k : WP y pc2 (ls.set i (some (.inl (x + d)))) st hi hr Q) : WP y pc ls st hi hr Q := by
  subst hp
  exact fun n av => VP.iinc hd hl hx (k n av)
theorem WP.iadd {pc2 : Nat} {a b : Int} (hp : pc + 1 = pc2) (hd : decode (zBy y) pc = .ok (.iadd, 1)) (hx : zInR (a + b)) (k : WP y pc2 ls (.inl (a + b) :: st) hi hr Q) : WP y pc ls (.inl b :: .inl a :: st) hi hr Q := by
  subst hp
  exact fun n av => VP.iadd hd hx (k n av)
theorem WP.isub {pc2 : Nat} {a b : Int} (hp : pc + 1 = pc2) (hd : decode (zBy y) pc = .ok (.isub, 1)) (hx : zInR (a - b)) (k : WP y pc2 ls (.inl (a - b) :: st) hi hr Q) : WP y pc ls (.inl b :: .inl a :: st) hi hr Q := by
  subst hp
  exact fun n av => VP.isub hd hx (k n av)
theorem WP.imul {pc2 : Nat} {a b : Int} (hp : pc + 1 = pc2) (hd : decode (zBy y) pc = .ok (.imul, 1)) (hx : zInR (a * b)) (k : WP y pc2 ls (.inl (a * b) :: st) hi hr Q) : WP y pc ls (.inl b :: .inl a :: st) hi hr Q := by
  subst hp
  exact fun n av => VP.imul hd hx (k n av)
theorem WP.idiv {pc2 : Nat} {a b : Int} (hp : pc + 1 = pc2) (hd : decode (zBy y) pc = .ok (.idiv, 1)) (h0 : 0 ≤ a) (h1 : 0 < b) (k : WP y pc2 ls (.inl (a / b) :: st) hi hr Q) : WP y pc ls (.inl b :: .inl a :: st) hi hr Q := by
  subst hp
  exact fun n av => VP.idiv hd h0 h1 (k n av)
theorem WP.irem {pc2 : Nat} {a b : Int} (hp : pc + 1 = pc2) (hd : decode (zBy y) pc = .ok (.irem, 1)) (h0 : 0 ≤ a) (h1 : 0 < b) (k : WP y pc2 ls (.inl (a % b) :: st) hi hr Q) : WP y pc ls (.inl b :: .inl a :: st) hi hr Q := by
  subst hp
  exact fun n av => VP.irem hd h0 h1 (k n av)
theorem WP.iand {pc2 : Nat} {a b : Int} (hp : pc + 1 = pc2) (hd : decode (zBy y) pc = .ok (.iand, 1)) (k : WP y pc2 ls (.inl (zand a b) :: st) hi hr Q) : WP y pc ls (.inl b :: .inl a :: st) hi hr Q := by
  subst hp
  exact fun n av => VP.iand hd (k n av)
theorem WP.ior {pc2 : Nat} {a b : Int} (hp : pc + 1 = pc2) (hd : decode (zBy y) pc = .ok (.ior, 1)) (k : WP y pc2 ls (.inl (zor a b) :: st) hi hr Q) : WP y pc ls (.inl b :: .inl a :: st) hi hr Q := by
  subst hp
  exact fun n av => VP.ior hd (k n av)
theorem WP.ixor {pc2 : Nat} {a b : Int} (hp : pc + 1 = pc2) (hd : decode (zBy y) pc = .ok (.ixor, 1)) (k : WP y pc2 ls (.inl (zxor a b) :: st) hi hr Q) : WP y pc ls (.inl b :: .inl a :: st) hi hr Q := by
  subst hp
  exact fun n av => VP.ixor hd (k n av)
theorem WP.ishl {pc2 : Nat} {a b : Int} (hp : pc + 1 = pc2) (hd : decode (zBy y) pc = .ok (.ishl, 1)) (k : WP y pc2 ls (.inl (zshl a b) :: st) hi hr Q) : WP y pc ls (.inl b :: .inl a :: st) hi hr Q := by
  subst hp
  exact fun n av => VP.ishl hd (k n av)
theorem WP.ishr {pc2 : Nat} {a b : Int} (hp : pc + 1 = pc2) (hd : decode (zBy y) pc = .ok (.ishr, 1)) (k : WP y pc2 ls (.inl (zshr a b) :: st) hi hr Q) : WP y pc ls (.inl b :: .inl a :: st) hi hr Q := by
  subst hp
  exact fun n av => VP.ishr hd (k n av)
theorem WP.iushr {pc2 : Nat} {a b : Int} (hp : pc + 1 = pc2) (hd : decode (zBy y) pc = .ok (.iushr, 1)) (k : WP y pc2 ls (.inl (zushr a b) :: st) hi hr Q) : WP y pc ls (.inl b :: .inl a :: st) hi hr Q := by
  subst hp
  exact fun n av => VP.iushr hd (k n av)
theorem WP.i2b {pc2 : Nat} {a : Int} (hp : pc + 1 = pc2) (hd : decode (zBy y) pc = .ok (.i2b, 1)) (k : WP y pc2 ls (.inl (zi2b a) :: st) hi hr Q) : WP y pc ls (.inl a :: st) hi hr Q := by
  subst hp
  exact fun n av => VP.i2b hd (k n av)
theorem WP.dup {pc2 : Nat} {v : zV} (hp : pc + 1 = pc2) (hd : decode (zBy y) pc = .ok (.dup, 1)) (k : WP y pc2 ls (v :: v :: st) hi hr Q) (h1 : zc v = 1 := by rfl) : WP y pc ls (v :: st) hi hr Q := by
  subst hp
  exact fun n av => VP.dup hd (k n av) h1
theorem WP.dup2 {pc2 : Nat} {v u : zV} (hp : pc + 1 = pc2) (hd : decode (zBy y) pc = .ok (.dup2, 1)) (k : WP y pc2 ls (v :: u :: v :: u :: st) hi hr Q) (e1 : zc v = 1 := by rfl) (e2 : zc u = 1 := by rfl) : WP y pc ls (v :: u :: st) hi hr Q := by
  subst hp
  exact fun n av => VP.dup2 hd (k n av) e1 e2
theorem WP.pop {pc2 : Nat} {v : zV} (hp : pc + 1 = pc2) (hd : decode (zBy y) pc = .ok (.pop, 1)) (k : WP y pc2 ls st hi hr Q) (h1 : zc v = 1 := by rfl) : WP y pc ls (v :: st) hi hr Q := by
  subst hp
  exact fun n av => VP.pop hd (k n av) h1
theorem WP.ldc2 {pc2 : Nat} {x : Int} {index : Nat} (hp : pc + 3 = pc2) (hc : Cond.constantLong (zNm y).cls index (Int64.ofInt x) ∈ zTb) (hd : decode (zBy y) pc = .ok (.ldc2_w index, 3)) (k : WP y pc2 ls (.lo x :: st) hi hr Q) : WP y pc ls st hi hr Q := by
  subst hp
  exact fun n av => VP.ldc2 hc hd (k n av)
theorem WP.lconst {pc2 : Nat} {x : Int} {i : Fin 2} (hp : pc + 1 = pc2) (hx : ((i : Nat) : Int) = x) (hd : decode (zBy y) pc = .ok (.lconst i, 1)) (k : WP y pc2 ls (.lo x :: st) hi hr Q) : WP y pc ls st hi hr Q := by
  subst hp
  exact fun n av => VP.lconst hx hd (k n av)
theorem WP.lload_n {pc2 : Nat} {i : Fin 4} {x : Int} (hp : pc + 1 = pc2) (hd : decode (zBy y) pc = .ok (.lload_n i, 1)) (hl : ls[(i : Nat)]? = some (some (.lo x))) (hl2 : ls[(i : Nat) + 1]? = some none) (k : WP y pc2 ls (.lo x :: st) hi hr Q) : WP y pc ls st hi hr Q := by
  subst hp
  exact fun n av => VP.lload_n hd hl hl2 (k n av)
theorem WP.lload {pc2 : Nat} {i : Nat} {x : Int} (hp : pc + 2 = pc2) (hd : decode (zBy y) pc = .ok (.lload i, 2)) (hl : ls[i]? = some (some (.lo x))) (hl2 : ls[i + 1]? = some none) (k : WP y pc2 ls (.lo x :: st) hi hr Q) : WP y pc ls st hi hr Q := by
  subst hp
  exact fun n av => VP.lload hd hl hl2 (k n av)
theorem WP.lstore_n {pc2 : Nat} {i : Fin 4} {x : Int} (hp : pc + 1 = pc2) (hd : decode (zBy y) pc = .ok (.lstore_n i, 1)) (hn : (i : Nat) + 1 < zMx y) (k : WP y pc2 ((ls.set (i : Nat) (some (.lo x))).set ((i : Nat) + 1) none) st hi hr Q) : WP y pc ls (.lo x :: st) hi hr Q := by
  subst hp
  exact fun n av => VP.lstore_n hd hn (k n av)
theorem WP.lstore {pc2 : Nat} {i : Nat} {x : Int} (hp : pc + 2 = pc2) (hd : decode (zBy y) pc = .ok (.lstore i, 2)) (hn : i + 1 < zMx y) (k : WP y pc2 ((ls.set i (some (.lo x))).set (i + 1) none) st hi hr Q) : WP y pc ls (.lo x :: st) hi hr Q := by
  subst hp
  exact fun n av => VP.lstore hd hn (k n av)
theorem WP.land {pc2 : Nat} {a b : Int} (hp : pc + 1 = pc2) (hd : decode (zBy y) pc = .ok (.land, 1)) (k : WP y pc2 ls (.lo (zland a b) :: st) hi hr Q) : WP y pc ls (.lo b :: .lo a :: st) hi hr Q := by
  subst hp
  exact fun n av => VP.land hd (k n av)
theorem WP.lor {pc2 : Nat} {a b : Int} (hp : pc + 1 = pc2) (hd : decode (zBy y) pc = .ok (.lor, 1)) (k : WP y pc2 ls (.lo (zlor a b) :: st) hi hr Q) : WP y pc ls (.lo b :: .lo a :: st) hi hr Q := by
  subst hp
  exact fun n av => VP.lor hd (k n av)
theorem WP.lxor {pc2 : Nat} {a b : Int} (hp : pc + 1 = pc2) (hd : decode (zBy y) pc = .ok (.lxor, 1)) (k : WP y pc2 ls (.lo (zlxor a b) :: st) hi hr Q) : WP y pc ls (.lo b :: .lo a :: st) hi hr Q := by
  subst hp
  exact fun n av => VP.lxor hd (k n av)
theorem WP.lshl {pc2 : Nat} {a b : Int} (hp : pc + 1 = pc2) (hd : decode (zBy y) pc = .ok (.lshl, 1)) (k : WP y pc2 ls (.lo (zlshl a b) :: st) hi hr Q) : WP y pc ls (.inl b :: .lo a :: st) hi hr Q := by
  subst hp
  exact fun n av => VP.lshl hd (k n av)
theorem WP.lushr {pc2 : Nat} {a b : Int} (hp : pc + 1 = pc2) (hd : decode (zBy y) pc = .ok (.lushr, 1)) (k : WP y pc2 ls (.lo (zlushr a b) :: st) hi hr Q) : WP y pc ls (.inl b :: .lo a :: st) hi hr Q := by
  subst hp
  exact fun n av => VP.lushr hd (k n av)
theorem WP.lcmp {pc2 : Nat} {a b : Int} (hp : pc + 1 = pc2) (hd : decode (zBy y) pc = .ok (.lcmp, 1)) (k : WP y pc2 ls (.inl (zlcmp a b) :: st) hi hr Q) : WP y pc ls (.lo b :: .lo a :: st) hi hr Q := by
  subst hp
  exact fun n av => VP.lcmp hd (k n av)
theorem WP.goto {off : Int} {tgt : Nat} (hd : decode (zBy y) pc = .ok (.goto off, 3)) (ht : (pc : Int) + off = (tgt : Int)) (k : WP y tgt ls st hi hr Q) : WP y pc ls st hi hr Q := fun n av => VP.goto hd ht (k n av)
theorem WP.if_eq {pc2 : Nat} {a : Int} {off : Int} {tgt : Nat} (hp : pc + 3 = pc2) (hd : decode (zBy y) pc = .ok (.ifCond .eq off, 3)) (ht : (pc : Int) + off = (tgt : Int)) (kt : a = 0 → WP y tgt ls st hi hr Q) (kf : a ≠ 0 → WP y pc2 ls st hi hr Q) : WP y pc ls (.inl a :: st) hi hr Q := by
  subst hp
  exact fun n av => VP.if_eq hd ht (fun h => kt h n av) (fun h => kf h n av)
theorem WP.if_ne {pc2 : Nat} {a : Int} {off : Int} {tgt : Nat} (hp : pc + 3 = pc2) (hd : decode (zBy y) pc = .ok (.ifCond .ne off, 3)) (ht : (pc : Int) + off = (tgt : Int)) (kt : a ≠ 0 → WP y tgt ls st hi hr Q) (kf : a = 0 → WP y pc2 ls st hi hr Q) : WP y pc ls (.inl a :: st) hi hr Q := by
  subst hp
  exact fun n av => VP.if_ne hd ht (fun h => kt h n av) (fun h => kf h n av)
theorem WP.if_lt {pc2 : Nat} {a : Int} {off : Int} {tgt : Nat} (hp : pc + 3 = pc2) (hd : decode (zBy y) pc = .ok (.ifCond .lt off, 3)) (ht : (pc : Int) + off = (tgt : Int)) (kt : a < 0 → WP y tgt ls st hi hr Q) (kf : 0 ≤ a → WP y pc2 ls st hi hr Q) : WP y pc ls (.inl a :: st) hi hr Q := by
  subst hp
  exact fun n av => VP.if_lt hd ht (fun h => kt h n av) (fun h => kf h n av)
theorem WP.if_ge {pc2 : Nat} {a : Int} {off : Int} {tgt : Nat} (hp : pc + 3 = pc2) (hd : decode (zBy y) pc = .ok (.ifCond .ge off, 3)) (ht : (pc : Int) + off = (tgt : Int)) (kt : 0 ≤ a → WP y tgt ls st hi hr Q) (kf : a < 0 → WP y pc2 ls st hi hr Q) : WP y pc ls (.inl a :: st) hi hr Q := by
  subst hp
  exact fun n av => VP.if_ge hd ht (fun h => kt h n av) (fun h => kf h n av)
theorem WP.if_gt {pc2 : Nat} {a : Int} {off : Int} {tgt : Nat} (hp : pc + 3 = pc2) (hd : decode (zBy y) pc = .ok (.ifCond .gt off, 3)) (ht : (pc : Int) + off = (tgt : Int)) (kt : 0 < a → WP y tgt ls st hi hr Q) (kf : a ≤ 0 → WP y pc2 ls st hi hr Q) : WP y pc ls (.inl a :: st) hi hr Q := by
  subst hp
  exact fun n av => VP.if_gt hd ht (fun h => kt h n av) (fun h => kf h n av)
theorem WP.if_le {pc2 : Nat} {a : Int} {off : Int} {tgt : Nat} (hp : pc + 3 = pc2) (hd : decode (zBy y) pc = .ok (.ifCond .le off, 3)) (ht : (pc : Int) + off = (tgt : Int)) (kt : a ≤ 0 → WP y tgt ls st hi hr Q) (kf : 0 < a → WP y pc2 ls st hi hr Q) : WP y pc ls (.inl a :: st) hi hr Q := by
  subst hp
  exact fun n av => VP.if_le hd ht (fun h => kt h n av) (fun h => kf h n av)
theorem WP.icmp_eq {pc2 : Nat} {a b : Int} {off : Int} {tgt : Nat} (hp : pc + 3 = pc2) (hd : decode (zBy y) pc = .ok (.if_icmp .eq off, 3)) (ht : (pc : Int) + off = (tgt : Int)) (kt : a = b → WP y tgt ls st hi hr Q) (kf : a ≠ b → WP y pc2 ls st hi hr Q) : WP y pc ls (.inl b :: .inl a :: st) hi hr Q := by
  subst hp
  exact fun n av => VP.icmp_eq hd ht (fun h => kt h n av) (fun h => kf h n av)
theorem WP.icmp_ne {pc2 : Nat} {a b : Int} {off : Int} {tgt : Nat} (hp : pc + 3 = pc2) (hd : decode (zBy y) pc = .ok (.if_icmp .ne off, 3)) (ht : (pc : Int) + off = (tgt : Int)) (kt : a ≠ b → WP y tgt ls st hi hr Q) (kf : a = b → WP y pc2 ls st hi hr Q) : WP y pc ls (.inl b :: .inl a :: st) hi hr Q := by
  subst hp
  exact fun n av => VP.icmp_ne hd ht (fun h => kt h n av) (fun h => kf h n av)
theorem WP.icmp_lt {pc2 : Nat} {a b : Int} {off : Int} {tgt : Nat} (hp : pc + 3 = pc2) (hd : decode (zBy y) pc = .ok (.if_icmp .lt off, 3)) (ht : (pc : Int) + off = (tgt : Int)) (kt : a < b → WP y tgt ls st hi hr Q) (kf : b ≤ a → WP y pc2 ls st hi hr Q) : WP y pc ls (.inl b :: .inl a :: st) hi hr Q := by
  subst hp
  exact fun n av => VP.icmp_lt hd ht (fun h => kt h n av) (fun h => kf h n av)
theorem WP.icmp_ge {pc2 : Nat} {a b : Int} {off : Int} {tgt : Nat} (hp : pc + 3 = pc2) (hd : decode (zBy y) pc = .ok (.if_icmp .ge off, 3)) (ht : (pc : Int) + off = (tgt : Int)) (kt : b ≤ a → WP y tgt ls st hi hr Q) (kf : a < b → WP y pc2 ls st hi hr Q) : WP y pc ls (.inl b :: .inl a :: st) hi hr Q := by
  subst hp
  exact fun n av => VP.icmp_ge hd ht (fun h => kt h n av) (fun h => kf h n av)
theorem WP.icmp_gt {pc2 : Nat} {a b : Int} {off : Int} {tgt : Nat} (hp : pc + 3 = pc2) (hd : decode (zBy y) pc = .ok (.if_icmp .gt off, 3)) (ht : (pc : Int) + off = (tgt : Int)) (kt : b < a → WP y tgt ls st hi hr Q) (kf : a ≤ b → WP y pc2 ls st hi hr Q) : WP y pc ls (.inl b :: .inl a :: st) hi hr Q := by
  subst hp
  exact fun n av => VP.icmp_gt hd ht (fun h => kt h n av) (fun h => kf h n av)
theorem WP.icmp_le {pc2 : Nat} {a b : Int} {off : Int} {tgt : Nat} (hp : pc + 3 = pc2) (hd : decode (zBy y) pc = .ok (.if_icmp .le off, 3)) (ht : (pc : Int) + off = (tgt : Int)) (kt : a ≤ b → WP y tgt ls st hi hr Q) (kf : b < a → WP y pc2 ls st hi hr Q) : WP y pc ls (.inl b :: .inl a :: st) hi hr Q := by
  subst hp
  exact fun n av => VP.icmp_le hd ht (fun h => kt h n av) (fun h => kf h n av)
theorem WP.ifnull {pc2 : Nat} {o : Option (Nat × Int)} {off : Int} {tgt : Nat} (hp : pc + 3 = pc2) (hd : decode (zBy y) pc = .ok (.ifnull off, 3)) (ht : (pc : Int) + off = (tgt : Int)) (kt : o = none → WP y tgt ls st hi hr Q) (kf : ∀ q, o = some q → WP y pc2 ls st hi hr Q) : WP y pc ls (.inr o :: st) hi hr Q := by
  subst hp
  exact fun n av => VP.ifnull hd ht (fun h => kt h n av) (fun q h => kf q h n av)
theorem WP.ifnonnull {pc2 : Nat} {o : Option (Nat × Int)} {off : Int} {tgt : Nat} (hp : pc + 3 = pc2) (hd : decode (zBy y) pc = .ok (.ifnonnull off, 3)) (ht : (pc : Int) + off = (tgt : Int)) (kt : ∀ q, o = some q → WP y tgt ls st hi hr Q) (kf : o = none → WP y pc2 ls st hi hr Q) : WP y pc ls (.inr o :: st) hi hr Q := by
  subst hp
  exact fun n av => VP.ifnonnull hd ht (fun q h => kt q h n av) (fun h => kf h n av)
theorem WP.tsw {a dflt lo hi' : Int} {offs : Array Int} {len : Nat} (hd : decode (zBy y) pc = .ok (.tableswitch dflt lo hi' offs, len)) (ko : a < lo ∨ hi' < a → ∃ tgt : Nat, (pc : Int) + dflt = (tgt : Int) ∧ WP y tgt ls st hi hr Q)
    (ki : lo ≤ a → a ≤ hi' → ∃ (off : Int) (tgt : Nat), offs[(a - lo).toNat]? = some off ∧ (pc : Int) + off = (tgt : Int) ∧ WP y tgt ls st hi hr Q) : WP y pc ls (.inl a :: st) hi hr Q := fun n av => VP.tsw hd (fun h => (ko h).imp (fun t q => ⟨q.1, q.2 n av⟩)) (fun h1 h2 => (ki h1 h2).imp (fun o q => q.imp (fun t q => ⟨q.1, q.2.1, q.2.2 n av⟩)))
theorem WP.lsw {a dflt : Int} {ps : Array (Int × Int)} {len tgt : Nat} (hd : decode (zBy y) pc = .ok (.lookupswitch dflt ps, len)) (hp : (ps.toList.zip (ps.toList.drop 1)).all (fun (a, next) => a.1 < next.1) = true) (ht : (pc : Int) + Op.lookupswitch.offset ps.toList dflt a = (tgt : Int)) (k : WP y tgt ls st hi hr Q) : WP y pc ls (.inl a :: st) hi hr Q := fun n av => VP.lsw hd hp ht (k n av)
theorem WP.getI {pc2 : Nat} {k c N i : Nat} {j : Int} {C : String} {T : u_T} {ty : Nat → FieldType} {index : Nat} (hp : pc + 3 = pc2) (hd : decode (zBy y) pc = .ok (.getfield index, 3)) (hz : zCl c C T N ty) (hk : zSh k = .inl c) (hs : i < N) (hrf : zRF c i = false)
    (hl : Cond.fieldLink (zNm y).cls index (T i).1 (T i).2.1 (T i).2.2.1 ∈ zTb) {s v : Int} (hsi : (i : Int) = s) (hv : hi k j s = v) (kk : WP y pc2 ls (.inl v :: st) hi hr Q) : WP y pc ls (.inr (some (k, j)) :: st) hi hr Q := by
  subst hp
  exact fun n av => VP.getI hd hz hk hs hrf hl (by rw [hsi, hv]; exact kk n av)
theorem WP.getR {pc2 : Nat} {k c N i : Nat} {j : Int} {C : String} {T : u_T} {ty : Nat → FieldType} {index : Nat} (hp : pc + 3 = pc2) (hd : decode (zBy y) pc = .ok (.getfield index, 3)) (hz : zCl c C T N ty) (hk : zSh k = .inl c) (hs : i < N) (hrf : zRF c i = true)
    (hl : Cond.fieldLink (zNm y).cls index (T i).1 (T i).2.1 (T i).2.2.1 ∈ zTb) {o : Option (Nat × Int)} {s : Int} (hsi : (i : Int) = s) (ho : hr k j s = o) (kk : WP y pc2 ls (.inr o :: st) hi hr Q) : WP y pc ls (.inr (some (k, j)) :: st) hi hr Q := by
  subst hp
  exact fun n av => VP.getR hd hz hk hs hrf hl (by rw [hsi]; exact ho) (kk n av)
theorem z_int (x : Int) : narrow .int (.int (Int32.ofInt x)) = .int (Int32.ofInt x) ∧ fits .int (.int (Int32.ofInt x)) = true := ⟨rfl, rfl⟩
theorem z_bool {x : Int} (h : x = 0 ∨ x = 1) : narrow .boolean (.int (Int32.ofInt x)) = .int (Int32.ofInt x) ∧ fits .boolean (.int (Int32.ofInt x)) = true := by
  rcases h with rfl | rfl <;> exact ⟨by decide +kernel, by decide +kernel⟩
theorem WP.putI {pc2 : Nat} {k c N i : Nat} {j x : Int} {C : String} {T : u_T} {ty : Nat → FieldType} {index : Nat} (hp : pc + 3 = pc2) (hd : decode (zBy y) pc = .ok (.putfield index, 3)) (hz : zCl c C T N ty) (hk : zSh k = .inl c) (hs : i < N) (hrf : zRF c i = false)
    (hl : Cond.fieldLink (zNm y).cls index (T i).1 (T i).2.1 (T i).2.2.1 ∈ zTb) (hf : (T i).2.2.2 = false) (hn : narrow (ty i) (.int (Int32.ofInt x)) = .int (Int32.ofInt x) ∧ fits (ty i) (.int (Int32.ofInt x)) = true)
    {s : Int} (hsi : (i : Int) = s) (kk : WP y pc2 ls st (zup hi k j s x) hr Q) : WP y pc ls (.inl x :: .inr (some (k, j)) :: st) hi hr Q := by
  subst hp
  exact fun n av => VP.putI hd hz hk hs hrf hl hf hn (by rw [hsi]; exact kk n av)
theorem WP.putR {pc2 : Nat} {k c N i : Nat} {j : Int} {o : Option (Nat × Int)} {C : String} {T : u_T} {ty : Nat → FieldType} {index : Nat} (hp : pc + 3 = pc2) (hd : decode (zBy y) pc = .ok (.putfield index, 3)) (hz : zCl c C T N ty) (hk : zSh k = .inl c) (hs : i < N) (hrf : zRF c i = true)
    (hl : Cond.fieldLink (zNm y).cls index (T i).1 (T i).2.1 (T i).2.2.1 ∈ zTb) (hf : (T i).2.2.2 = false) (hn : (∃ C, ty i = .object C) ∨ ∃ u, ty i = .array u)
    {s : Int} (hsi : (i : Int) = s) (kk : WP y pc2 ls st hi (zupR hr k j s o) Q) : WP y pc ls (.inr o :: .inr (some (k, j)) :: st) hi hr Q := by
  subst hp
  exact fun n av => VP.putR hd hz hk hs hrf hl (Or.inl hf) hn (by rw [hsi]; exact kk n av)
theorem WP.iaload {pc2 : Nat} {k len : Nat} {j x : Int} (hp : pc + 1 = pc2) (hd : decode (zBy y) pc = .ok (.iaload, 1)) (hk : zSh k = .inr (0, len)) {Ln : Int} (hL : (len : Int) = Ln) (h : 0 ≤ x ∧ x < Ln) {v : Int} (hv : hi k j x = v) (kk : WP y pc2 ls (.inl v :: st) hi hr Q) : WP y pc ls (.inl x :: .inr (some (k, j)) :: st) hi hr Q := by
  subst hp
  exact fun n av => VP.iaload hd hk h.1 (by rw [hL]; exact h.2) (by rw [hv]; exact kk n av)
theorem WP.laload {pc2 : Nat} {k len : Nat} {j x : Int} (hp : pc + 1 = pc2) (hd : decode (zBy y) pc = .ok (.laload, 1)) (hk : zSh k = .inr (6, len)) {Ln : Int} (hL : (len : Int) = Ln) (h : 0 ≤ x ∧ x < Ln) {v : Int} (hv : hi k j x = v) (kk : WP y pc2 ls (.lo v :: st) hi hr Q) : WP y pc ls (.inl x :: .inr (some (k, j)) :: st) hi hr Q := by
  subst hp
  exact fun n av => VP.laload hd hk h.1 (by rw [hL]; exact h.2) (by rw [hv]; exact kk n av)
theorem WP.lastore {pc2 : Nat} {k len : Nat} {j x v : Int} (hp : pc + 1 = pc2) (hd : decode (zBy y) pc = .ok (.lastore, 1)) (hk : zSh k = .inr (6, len)) {Ln : Int} (hL : (len : Int) = Ln) (h : 0 ≤ x ∧ x < Ln) (kk : WP y pc2 ls st (zup hi k j x v) hr Q) : WP y pc ls (.lo v :: .inl x :: .inr (some (k, j)) :: st) hi hr Q := by
  subst hp
  exact fun n av => VP.lastore hd hk h.1 (by rw [hL]; exact h.2) (kk n av)
theorem WP.lret {x : Int} (hd : decode (zBy y) pc = .ok (.lreturn, 1)) (hr0 : zRt y = some .long) (hq : Q (some (.lo x)) hi hr) : WP y pc ls [.lo x] hi hr Q := fun n av => VP.lret hd hr0 ⟨rfl, hq⟩
theorem WP.baload {pc2 : Nat} {k len t : Nat} {j x : Int} (hp : pc + 1 = pc2) (hd : decode (zBy y) pc = .ok (.baload, 1)) (hk : zSh k = .inr (t, len)) (ht : t = 1 ∨ t = 2) {Ln : Int} (hL : (len : Int) = Ln) (h : 0 ≤ x ∧ x < Ln) {v : Int} (hv : hi k j x = v) (kk : WP y pc2 ls (.inl v :: st) hi hr Q) : WP y pc ls (.inl x :: .inr (some (k, j)) :: st) hi hr Q := by
  subst hp
  exact fun n av => VP.baload hd hk ht h.1 (by rw [hL]; exact h.2) (by rw [hv]; exact kk n av)
theorem WP.aaload {pc2 : Nat} {k len t : Nat} {j x : Int} (hp : pc + 1 = pc2) (hd : decode (zBy y) pc = .ok (.aaload, 1)) (hk : zSh k = .inr (t, len)) (ht : t = 3 ∨ t = 4 ∨ t = 5) {Ln : Int} (hL : (len : Int) = Ln) (h : 0 ≤ x ∧ x < Ln) {o : Option (Nat × Int)} (ho : hr k j x = o) (kk : WP y pc2 ls (.inr o :: st) hi hr Q) : WP y pc ls (.inl x :: .inr (some (k, j)) :: st) hi hr Q := by
  subst hp
  exact fun n av => VP.aaload hd hk ht h.1 (by rw [hL]; exact h.2) ho (kk n av)
theorem WP.iastore {pc2 : Nat} {k len : Nat} {j x v : Int} (hp : pc + 1 = pc2) (hd : decode (zBy y) pc = .ok (.iastore, 1)) (hk : zSh k = .inr (0, len)) {Ln : Int} (hL : (len : Int) = Ln) (h : 0 ≤ x ∧ x < Ln) (kk : WP y pc2 ls st (zup hi k j x v) hr Q) : WP y pc ls (.inl v :: .inl x :: .inr (some (k, j)) :: st) hi hr Q := by
  subst hp
  exact fun n av => VP.iastore hd hk h.1 (by rw [hL]; exact h.2) (kk n av)
theorem WP.bastore {pc2 : Nat} {k len t : Nat} {j x v : Int} (hp : pc + 1 = pc2) (hd : decode (zBy y) pc = .ok (.bastore, 1)) (hk : zSh k = .inr (t, len)) (ht : (t = 1 ∧ -128 ≤ v ∧ v < 128) ∨ (t = 2 ∧ 0 ≤ v ∧ v < 2)) {Ln : Int} (hL : (len : Int) = Ln) (h : 0 ≤ x ∧ x < Ln) (kk : WP y pc2 ls st (zup hi k j x v) hr Q) : WP y pc ls (.inl v :: .inl x :: .inr (some (k, j)) :: st) hi hr Q := by
  subst hp
  exact fun n av => VP.bastore hd hk ht h.1 (by rw [hL]; exact h.2) (kk n av)
theorem WP.aastore {pc2 : Nat} {k len t k2 c : Nat} {j x j2 : Int} {C : String} {T : u_T} {N : Nat} {ty : Nat → FieldType} (hp : pc + 1 = pc2) (hd : decode (zBy y) pc = .ok (.aastore, 1)) (hk : zSh k = .inr (t, len)) (hk2 : zSh k2 = .inl c) (hz : zCl c C T N ty) (ht : (t = 3 ∧ C = RX0) ∨ (t = 4 ∧ C = RX3) ∨ (t = 5 ∧ C = RX9)) {Ln : Int} (hL : (len : Int) = Ln) (h : 0 ≤ x ∧ x < Ln) (kk : WP y pc2 ls st hi (zupR hr k j x (some (k2, j2))) Q) : WP y pc ls (.inr (some (k2, j2)) :: .inl x :: .inr (some (k, j)) :: st) hi hr Q := by
  subst hp
  exact fun n av => VP.aastore hd hk hk2 hz ht h.1 (by rw [hL]; exact h.2) (kk n av)
theorem WP.alen {pc2 : Nat} {k len t : Nat} {j : Int} (hp : pc + 1 = pc2) (hd : decode (zBy y) pc = .ok (.arraylength, 1)) (hk : zSh k = .inr (t, len)) (ht : t < 7) (hn : len < 2147483648) {Ln : Int} (hL : (len : Int) = Ln) (kk : WP y pc2 ls (.inl Ln :: st) hi hr Q) : WP y pc ls (.inr (some (k, j)) :: st) hi hr Q := by
  subst hp
  exact fun n av => VP.alen hd hk ht hn (by rw [hL]; exact kk n av)
theorem WP.vret (hd : decode (zBy y) pc = .ok (.return_, 1)) (hr0 : zRt y = none) (hq : Q none hi hr) : WP y pc ls [] hi hr Q := fun n av => VP.vret hd hr0 ⟨rfl, hq⟩
theorem VP.okS {n ac av : Nat} {Q : zQ} {x : Int} (k : zInR x → VP y pc ls (.inl x :: st) n ac av hi hr Q) : VP y pc ls (.inl x :: st) n ac av hi hr Q := by
  intro p l e s m args below meth c H locs cells slots D cy B lsr C L S G
  exact k (S _ List.mem_cons_self) p l e s m args below meth c H locs cells slots D cy B lsr C L S G
theorem WP.iret {x : Int} (hd : decode (zBy y) pc = .ok (.ireturn, 1)) (hr0 : zRt y = some .int) (hq : zInR x → Q (some (.inl x)) hi hr) : WP y pc ls [.inl x] hi hr Q := fun n av => VP.okS (fun hx => VP.iret hd hr0 rfl ⟨rfl, hq hx⟩)
theorem WP.zret {x : Int} (hd : decode (zBy y) pc = .ok (.ireturn, 1)) (hr0 : zRt y = some .boolean) (hb : x = 0 ∨ x = 1) (hq : zInR x → Q (some (.inl x)) hi hr) : WP y pc ls [.inl x] hi hr Q := fun n av => VP.okS (fun hx => VP.iret hd hr0 (z_bool hb).1 ⟨rfl, hq hx⟩)
theorem WP.aret {o : Option (Nat × Int)} {C : String} (hd : decode (zBy y) pc = .ok (.areturn, 1)) (hr0 : zRt y = some (.object C)) (hq : Q (some (.inr o)) hi hr) : WP y pc ls [.inr o] hi hr Q := fun n av => VP.aret hd hr0 ⟨rfl, hq⟩
theorem WP.callV {pc2 : Nat} {k c N : Nat} {j : Int} {T : u_T} {ty : Nat → FieldType} {index : Nat} (hp : pc + 3 = pc2) (hd : decode (zBy y) pc = .ok (.invokevirtual index, 3)) (hO : zOK y' vs.length ((zsl vs).length + 1)) (hR : zRo y y') (hl : Cond.methodLink (zNm y).cls index (zNm y') ∈ zTb ∧ Cond.instanceMethod (zNm y') ∈ zTb ∧ Cond.selects (zNm y').cls (zNm y') (zNm y') ∈ zTb)
    (hk : zSh k = .inl c) (hz : zCl c (zNm y').cls T N ty) (hst : zw st ≤ 8) (hmc : zMc y' = 0 ∧ zMs y' = 0) {st0 : List zV} (hst0 : st0 = vs.reverse ++ .inr (some (k, j)) :: st)
    (kk : WPm y' (.inr (some (k, j)) :: vs) hi hr (fun r hi' hr' => WP y pc2 ls (r.toList ++ st) hi' hr' Q)) : WP y pc ls st0 hi hr Q := by
  subst hp
  intro n av
  refine VP.callV hd hO hR hl.1 hl.2.1 hl.2.2 hk hz hst (by omega) (by omega) hst0 (VP.mono (kk n) (fun r n' hi' hr' q => ?_))
  obtain ⟨rfl, q⟩ := q
  rw [Nat.zero_sub]
  exact q _ _
theorem WP.callS {pc2 : Nat} {index : Nat} (hp : pc + 3 = pc2) (hd : decode (zBy y) pc = .ok (.invokestatic index, 3)) (hO : zOK y' vs.length (zsl vs).length) (hR : zRo y y') (hl : Cond.methodLink (zNm y).cls index (zNm y') ∈ zTb ∧ Cond.static (zNm y') ∈ zTb)
    (hst : zw st ≤ 8) (hmc : zMc y' = 0 ∧ zMs y' = 0) {st0 : List zV} (hst0 : st0 = vs.reverse ++ st)
    (kk : WPm y' vs hi hr (fun r hi' hr' => WP y pc2 ls (r.toList ++ st) hi' hr' Q)) : WP y pc ls st0 hi hr Q := by
  subst hp
  intro n av
  refine VP.callS hd hO hR hl.1 hl.2 hst (by omega) (by omega) hst0 (VP.mono (kk n) (fun r n' hi' hr' q => ?_))
  obtain ⟨rfl, q⟩ := q
  rw [Nat.zero_sub]
  exact q _ _
theorem WP.c0i {P : Int → Prop} {pc2 : Nat} (f : W0i y' vs hi hr P) (k : ∀ x, zInR x → P x → WP y pc2 ls (.inl x :: st) hi hr Q) : WPm y' vs hi hr (fun r hi2 hr2 => WP y pc2 ls (r.toList ++ st) hi2 hr2 Q) := WPm.mono f (fun r hi2 hr2 q => by
  obtain ⟨x, rfl, hx, rfl, rfl, q⟩ := q
  exact k x hx q)
theorem WP.c0l {P : Int → Prop} {pc2 : Nat} (f : W0l y' vs hi hr P) (k : ∀ x, P x → WP y pc2 ls (.lo x :: st) hi hr Q) : WPm y' vs hi hr (fun r hi2 hr2 => WP y pc2 ls (r.toList ++ st) hi2 hr2 Q) := WPm.mono f (fun r hi2 hr2 q => by
  obtain ⟨x, rfl, rfl, rfl, q⟩ := q
  exact k x q)
theorem WP.c0v {P : Prop} {pc2 : Nat} (f : W0v y' vs hi hr P) (k : P → WP y pc2 ls st hi hr Q) : WPm y' vs hi hr (fun r hi2 hr2 => WP y pc2 ls (r.toList ++ st) hi2 hr2 Q) := WPm.mono f (fun r hi2 hr2 q => by
  obtain ⟨rfl, rfl, rfl, q⟩ := q
  exact k q)
theorem WP.c0r {P : Option (Nat × Int) → Prop} {pc2 : Nat} (f : W0r y' vs hi hr P) (k : ∀ o, P o → WP y pc2 ls (.inr o :: st) hi hr Q) : WPm y' vs hi hr (fun r hi2 hr2 => WP y pc2 ls (r.toList ++ st) hi2 hr2 Q) := WPm.mono f (fun r hi2 hr2 q => by
  obtain ⟨o, rfl, rfl, rfl, q⟩ := q
  exact k o q)
theorem WP.c1i {P : Int → zI → Prop} {pc2 : Nat} (f : W1i y' vs hi hr P) (k : ∀ x, ∀ hi1, zInR x → P x hi1 → WP y pc2 ls (.inl x :: st) hi1 hr Q) : WPm y' vs hi hr (fun r hi2 hr2 => WP y pc2 ls (r.toList ++ st) hi2 hr2 Q) := WPm.mono f (fun r hi2 hr2 q => by
  obtain ⟨x, rfl, hx, rfl, q⟩ := q
  exact k x _ hx q)
theorem WP.c1v {P : zI → Prop} {pc2 : Nat} (f : W1v y' vs hi hr P) (k : ∀ hi1, P hi1 → WP y pc2 ls st hi1 hr Q) : WPm y' vs hi hr (fun r hi2 hr2 => WP y pc2 ls (r.toList ++ st) hi2 hr2 Q) := WPm.mono f (fun r hi2 hr2 q => by
  obtain ⟨rfl, rfl, q⟩ := q
  exact k _ q)
theorem WP.c1r {P : Option (Nat × Int) → zI → Prop} {pc2 : Nat} (f : W1r y' vs hi hr P) (k : ∀ o, ∀ hi1, P o hi1 → WP y pc2 ls (.inr o :: st) hi1 hr Q) : WPm y' vs hi hr (fun r hi2 hr2 => WP y pc2 ls (r.toList ++ st) hi2 hr2 Q) := WPm.mono f (fun r hi2 hr2 q => by
  obtain ⟨o, rfl, rfl, q⟩ := q
  exact k o _ q)
theorem WP.c2i {P : Int → zI → zR → Prop} {pc2 : Nat} (f : W2i y' vs hi hr P) (k : ∀ x, ∀ hi1 hr1, zInR x → P x hi1 hr1 → WP y pc2 ls (.inl x :: st) hi1 hr1 Q) : WPm y' vs hi hr (fun r hi2 hr2 => WP y pc2 ls (r.toList ++ st) hi2 hr2 Q) := WPm.mono f (fun r hi2 hr2 q => by
  obtain ⟨x, rfl, hx, -, q⟩ := q
  exact k x _ _ hx q)
theorem WP.c2v {P : zI → zR → Prop} {pc2 : Nat} (f : W2v y' vs hi hr P) (k : ∀ hi1 hr1, P hi1 hr1 → WP y pc2 ls st hi1 hr1 Q) : WPm y' vs hi hr (fun r hi2 hr2 => WP y pc2 ls (r.toList ++ st) hi2 hr2 Q) := WPm.mono f (fun r hi2 hr2 q => by
  obtain ⟨rfl, -, q⟩ := q
  exact k _ _ q)
theorem WP.c2r {P : Option (Nat × Int) → zI → zR → Prop} {pc2 : Nat} (f : W2r y' vs hi hr P) (k : ∀ o, ∀ hi1 hr1, P o hi1 hr1 → WP y pc2 ls (.inr o :: st) hi1 hr1 Q) : WPm y' vs hi hr (fun r hi2 hr2 => WP y pc2 ls (r.toList ++ st) hi2 hr2 Q) := WPm.mono f (fun r hi2 hr2 q => by
  obtain ⟨o, rfl, -, q⟩ := q
  exact k o _ _ q)
end ZR
theorem zup_s (hi : zI) (k : Nat) (j s x : Int) : zup hi k j s x k j s = x := by simp [zup]
theorem zup_k (hi : zI) {k k' : Nat} (j s x j' s' : Int) (h : k' ≠ k) : zup hi k j s x k' j' s' = hi k' j' s' := by simp [zup, h]
theorem zup_f (hi : zI) {k k' : Nat} (j s x j' s' : Int) (h : s' ≠ s) : zup hi k j s x k' j' s' = hi k' j' s' := by simp [zup, h]
theorem zup_j (hi : zI) {k k' : Nat} (j s x j' s' : Int) (h : j' ≠ j) : zup hi k j s x k' j' s' = hi k' j' s' := by simp [zup, h]
theorem zupR_s (hr : zR) (k : Nat) (j s : Int) (x : Option (Nat × Int)) : zupR hr k j s x k j s = x := by simp [zupR]
theorem zupR_k (hr : zR) {k k' : Nat} (j s j' s' : Int) (x : Option (Nat × Int)) (h : k' ≠ k) : zupR hr k j s x k' j' s' = hr k' j' s' := by simp [zupR, h]
theorem zupR_f (hr : zR) {k k' : Nat} (j s j' s' : Int) (x : Option (Nat × Int)) (h : s' ≠ s) : zupR hr k j s x k' j' s' = hr k' j' s' := by simp [zupR, h]
theorem zi2b_rng (a : Int) : -128 ≤ zi2b a ∧ zi2b a < 128 := by
  unfold zi2b
  rw [Int8.toInt_toInt32]
  have h1 := Int8.le_toInt (Int32.ofInt a).toInt8
  have h2 := Int8.toInt_lt (Int32.ofInt a).toInt8
  omega
