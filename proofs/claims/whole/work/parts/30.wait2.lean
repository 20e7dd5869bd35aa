/-- the first of the waiting among vehicles 0 .. n - 1, and its moment: nx its act, mo that act's moment -/
def fwF (nx mo : Int → Int) : Nat → Int × Int
  | 0 => (-1, 0)
  | v + 1 => if nx v = 0 then fwF nx mo v else if (fwF nx mo v).1 = -1 ∨ mo v < (fwF nx mo v).2 then ((v : Int), mo v) else fwF nx mo v
/-- next act of v to c that is not over; how many -/
def nxW (m54 m55 m75 m76 m77 : Int → Int) (c v : Int) : Int := nxtF (fun i => m55 (301 * v + i)) c (fnoF (fun i => m55 (301 * v + i)) (m54 v) (knF m75 m76 m77 v)) (m54 v + 1 - fnoF (fun i => m55 (301 * v + i)) (m54 v) (knF m75 m76 m77 v)).toNat
def ctW (m54 m55 m75 m76 m77 : Int → Int) (c v : Int) : Int := ctA (fun i => m55 (301 * v + i)) c (fnoF (fun i => m55 (301 * v + i)) (m54 v) (knF m75 m76 m77 v)) (m54 v + 1 - fnoF (fun i => m55 (301 * v + i)) (m54 v) (knF m75 m76 m77 v)).toNat
def fwW (m54 m55 m56 m75 m76 m77 : Int → Int) (c : Int) (n : Nat) : Int × Int := fwF (nxW m54 m55 m75 m76 m77 c) (fun v => m56 (301 * v + nxW m54 m55 m75 m76 m77 c v)) n
/-- what waiting needs of a state -/
def WtM (vn : Int) (m54 m55 m56 m75 m76 m77 : Int → Int) : Prop := 0 ≤ vn ∧ vn ≤ 6 ∧ ∀ v, 0 ≤ v → v < vn → 0 ≤ m54 v ∧ m54 v ≤ 300 ∧ 0 ≤ knF m75 m76 m77 v ∧ knF m75 m76 m77 v ≤ m54 v ∧ ∀ i i', 1 ≤ i → i < i' → i' ≤ m54 v → m56 (301 * v + i) < m56 (301 * v + i')
theorem nxW_spec {vn : Int} {m54 m55 m56 m75 m76 m77 : Int → Int} (h : WtM vn m54 m55 m56 m75 m76 m77) {v : Int} (v0 : 0 ≤ v) (v1 : v < vn) (c : Int) :
    nxW m54 m55 m75 m76 m77 c v = 0 ∨ (1 ≤ nxW m54 m55 m75 m76 m77 c v ∧ nxW m54 m55 m75 m76 m77 c v ≤ m54 v ∧ m55 (301 * v + nxW m54 m55 m75 m76 m77 c v) = c) := by
  obtain ⟨a1, a2, a3, a4, a5⟩ := h.2.2 v v0 v1
  have hf := fnoF_pos (fun i => m55 (301 * v + i)) (kn := knF m75 m76 m77 v) a1
  have hf2 := hf.2 a4
  rcases nxtF_spec (fun i => m55 (301 * v + i)) c (m54 v + 1 - fnoF (fun i => m55 (301 * v + i)) (m54 v) (knF m75 m76 m77 v)).toNat _ hf.1 with ⟨b, -⟩ | ⟨b1, b2, b3, -⟩
  · exact Or.inl b
  · refine Or.inr ⟨?_, ?_, b3⟩
    · show 1 ≤ nxtF _ _ _ _
      omega
    · show nxtF _ _ _ _ ≤ _
      omega
/-- the class's accounts and routes say the same -/
theorem kn_eq {c24 : Int → Int → Int} {vn ta tk : Int} {m74 m75 m76 m77 m78 m79 m80 : Int → Int} (ha : RlA c24 vn ta tk m74 m75 m76 m77 m78 m79 m80) {v : Int} (v0 : 0 ≤ v) (v1 : v < 6) : (if c24 v 3 = c24 v 1 then c24 v 4 else 0) = knF m75 m76 m77 v := by
  obtain ⟨w1, w2, w3, w4, -⟩ := ha v v0 v1
  unfold knF
  rw [w1, w3, w4]
theorem WtM.of {c25 c26 c27 c28 : Int → Int → Int} {vn tk cn : Int} {m42 m51 m52 m53 m54 m55 m56 m68 m69 m70 m71 m72 m75 m76 m77 m79 : Int → Int} (h : RlR c25 c26 c27 c28 vn tk cn m42 m51 m52 m53 m54 m55 m56 m77) (hI : RlI c25 vn m54 m55 m68 m69 m70 m71 m72 m75 m76 m77 m79) (hv0 : 0 ≤ vn) (hv : vn ≤ 6) : WtM vn m54 m55 m56 m75 m76 m77 := by
  refine ⟨hv0, hv, fun v v0 v1 => ?_⟩
  obtain ⟨h1, h2, h3, h4, h5, h6, h7, h8, h9⟩ := h v v0 v1
  obtain ⟨i1, i2, i3, i4, i5, i6, i7, i8, i9, i10, i11⟩ := hI v v0 v1
  have hk : 0 ≤ knF m75 m76 m77 v ∧ knF m75 m76 m77 v ≤ m54 v := by
    unfold knF
    split
    · have hq : m69 v = m77 v := by omega
      have := (i5 hq).1
      omega
    · omega
  exact ⟨h3, h4, hk.1, hk.2, h8⟩
/-- a plan's acts in the class -/
theorem route_fno {c25 c26 c27 c28 : Int → Int → Int} {vn tk cn : Int} {m42 m51 m52 m53 m54 m55 m56 m77 : Int → Int} (h : RlR c25 c26 c27 c28 vn tk cn m42 m51 m52 m53 m54 m55 m56 m77) {v kn : Int} (v0 : 0 ≤ v) (v1 : v < vn) (hk : kn ≤ m54 v) (hk0 : 0 ≤ kn) :
    fnoF (c27 v) (c25 v 5) kn = fnoF (fun i => m55 (301 * v + i)) (m54 v) kn ∧ ∀ c, nxtF (c27 v) c (fnoF (c27 v) (c25 v 5) kn) (c25 v 5 + 1 - fnoF (c27 v) (c25 v 5) kn).toNat = nxtF (fun i => m55 (301 * v + i)) c (fnoF (fun i => m55 (301 * v + i)) (m54 v) kn) (m54 v + 1 - fnoF (fun i => m55 (301 * v + i)) (m54 v) kn).toNat ∧
      ctA (c27 v) c (fnoF (c27 v) (c25 v 5) kn) (c25 v 5 + 1 - fnoF (c27 v) (c25 v 5) kn).toNat = ctA (fun i => m55 (301 * v + i)) c (fnoF (fun i => m55 (301 * v + i)) (m54 v) kn) (m54 v + 1 - fnoF (fun i => m55 (301 * v + i)) (m54 v) kn).toNat := by
  obtain ⟨h1, h2, h3, h4, h5, h6, h7, h8, h9⟩ := h v v0 v1
  have e : fnoF (c27 v) (c25 v 5) kn = fnoF (fun i => m55 (301 * v + i)) (m54 v) kn := by
    unfold fnoF
    rw [h2, lastF_cong kn.toNat (B := fun i => m55 (301 * v + i)) (fun i a b => (h7 i a (by omega)).1)]
  have hf := fnoF_pos (fun i => m55 (301 * v + i)) (kn := kn) h3
  refine ⟨e, fun c => ?_⟩
  rw [e, h2]
  exact ⟨nxtF_cong c _ _ (fun i a b => (h7 i (by omega) (by omega)).1), ctA_cong c _ _ (fun i a b => (h7 i (by omega) (by omega)).1)⟩
section ZS
variable {hi : zI} {hr : zR}
theorem isOver_loop (hM : RSm hr) {v i : Int} (hv : 0 ≤ v ∧ v < 6) (hn : 0 ≤ hi 54 0 v ∧ hi 54 0 v ≤ 300) (h1 : 1 ≤ i) (x : Int) (hx : (x = 1 ∧ Ovr (fun i => hi 55 0 (301 * v + i)) (hi 54 0 v) (knF (hi 75 0) (hi 76 0) (hi 77 0) v) i) ∨ (x = 0 ∧ ¬ Ovr (fun i => hi 55 0 (301 * v + i)) (hi 54 0 v) (knF (hi 75 0) (hi 76 0) (hi 77 0) v) i)) :
    ∀ (k : Nat) (a l : Int), a = i + k → a ≤ hi 54 0 v → ((l = -1 ∧ ∀ q, a < q → q ≤ hi 54 0 v → hi 55 0 (301 * v + q) = -1) ∨ (a < l ∧ l ≤ hi 54 0 v ∧ hi 55 0 (301 * v + l) ≠ -1 ∧ ∀ q, a < q → q < l → hi 55 0 (301 * v + q) = -1)) → ∀ P : Int → Prop, P x → WP mX12_isOver 10 [some (.inr (some (37, 0))), some (.inl v), some (.inl i), some (.inl l), some (.inl a)] [] hi hr (zQ0i hi hr P) := by
  intro k
  induction k with
  | zero =>
    intro a l ha hb hl P hP
    refine GX12_isOver_10 hM v i l a ⟨fun _ => ?_, fun q => absurd q (by omega)⟩
    have ha : a = i := by omega
    subst ha
    rcases hl with ⟨rfl, hl⟩ | ⟨l1, l2, l3, l4⟩
    · refine ⟨fun q => absurd rfl q, fun _ => known_run hM hv _ ⟨hv, fun q => ?_, fun q => ?_⟩⟩
      · rcases hx with ⟨rfl, hx⟩ | ⟨rfl, hx⟩
        · rcases hx with ⟨k, b1, b2, b3, b4⟩ | ⟨-, b⟩
          · exact absurd (hl k b1 b2) b3
          · exact absurd b q
        · exact hP
      · rcases hx with ⟨rfl, hx⟩ | ⟨rfl, hx⟩
        · exact hP
        · exact absurd (Or.inr ⟨hl, q⟩) hx
    · refine ⟨fun _ => known_run hM hv _ ⟨fun q => ?_, fun q => ?_⟩, fun q => absurd q (by omega)⟩
      · rcases hx with ⟨rfl, hx⟩ | ⟨rfl, hx⟩
        · rcases hx with ⟨k, b1, b2, b3, b4⟩ | ⟨b, -⟩
          · by_cases hkl : k < l
            · exact absurd (l4 k b1 hkl) b3
            · omega
          · exact absurd (b l l1 l2) l3
        · exact hP
      · rcases hx with ⟨rfl, hx⟩ | ⟨rfl, hx⟩
        · exact hP
        · exact absurd (Or.inl ⟨l, l1, l2, l3, q⟩) hx
  | succ k ih =>
    intro a l ha hb hl P hP
    refine GX12_isOver_10 hM v i l a ⟨fun q => absurd q (by omega), fun _ => ⟨⟨by omega, by omega⟩, ⟨by omega, by omega⟩, ⟨by omega, by omega⟩, fun q => ⟨⟨by omega, by omega⟩, ?_⟩, fun q => ⟨⟨by omega, by omega⟩, ?_⟩⟩⟩
    · refine ih (a + -1) l (by omega) (by omega) ?_ P hP
      rcases hl with ⟨rfl, hl⟩ | ⟨l1, l2, l3, l4⟩
      · refine Or.inl ⟨rfl, fun t t1 t2 => ?_⟩
        by_cases e : t = a
        · rw [e]; exact q
        · exact hl t (by omega) t2
      · refine Or.inr ⟨by omega, l2, l3, fun t t1 t2 => ?_⟩
        by_cases e : t = a
        · rw [e]; exact q
        · exact l4 t (by omega) t2
    · exact ih (a + -1) a (by omega) (by omega) (Or.inr ⟨by omega, hb, q, fun t t1 t2 => by omega⟩) P hP
theorem isOver_run (hM : RSm hr) {v i : Int} (hv : 0 ≤ v ∧ v < 6) (hn : 0 ≤ hi 54 0 v ∧ hi 54 0 v ≤ 300) (h1 : 1 ≤ i) (h2 : i ≤ hi 54 0 v) (x : Int) (hx : (x = 1 ∧ Ovr (fun i => hi 55 0 (301 * v + i)) (hi 54 0 v) (knF (hi 75 0) (hi 76 0) (hi 77 0) v) i) ∨ (x = 0 ∧ ¬ Ovr (fun i => hi 55 0 (301 * v + i)) (hi 54 0 v) (knF (hi 75 0) (hi 76 0) (hi 77 0) v) i)) : R0i mX12_isOver [.inr (some (37, 0)), .inl v, .inl i] hi hr x :=
  fun P hP => GX12_isOver hM v i ⟨hv, isOver_loop hM hv hn h1 x hx (hi 54 0 v - i).toNat _ _ (by omega) (by omega) (Or.inl ⟨rfl, fun q a b => by omega⟩) P hP⟩
theorem waitingAt_loop (hR : RSc hr) {c vn : Int} (hf : hi 17 0 2 = vn) {W : Int → Int} (hv : vn ≤ 6) (h : ∀ v, 0 ≤ v → v < vn → R0i mX0_openActsTo [.inr (some (24, v)), .inl c] hi hr (W v) ∧ 0 ≤ W v ∧ W v ≤ 300) : ∀ (k a : Nat), (a : Int) + k = vn → 0 ≤ smI W a → smI W a ≤ 300 * a → ∀ P : Int → Prop, P (smI W vn.toNat) → WP mX1_waitingAt 4 [some (.inr (some (17, 0))), some (.inl c), some (.inl (smI W a)), some (.inl (a : Int))] [] hi hr (zQ0i hi hr P) := by
  intro k
  induction k with
  | zero =>
    intro a h0 h1 h2 P hP
    refine GX1_waitingAt_4 hR c _ _ ⟨fun _ => ?_, fun q => absurd q (by omega)⟩
    rw [show vn.toNat = a by omega] at hP
    exact hP
  | succ k ih =>
    intro a h0 h1 h2 P hP
    obtain ⟨g1, g2, g3⟩ := h a (by omega) (by omega)
    refine GX1_waitingAt_4 hR c _ _ ⟨fun q => absurd q (by omega), fun _ => ⟨⟨by omega, by omega⟩, g1 _ ⟨⟨by omega, by omega⟩, ⟨by omega, by omega⟩, ?_⟩⟩⟩
    have e : smI W a + W a = smI W (a + 1) := rfl
    rw [e]
    exact ih (a + 1) (by omega) (by omega) (by omega) P hP
theorem firstWaitingAt_loop (hR : RSc hr) {c vn : Int} (hf : hi 17 0 2 = vn) {nx mo : Int → Int} (hv : vn ≤ 6) (h : ∀ v, 0 ≤ v → v < vn → R0i mX0_nextActTo [.inr (some (24, v)), .inl c] hi hr (nx v) ∧ ∃ y, R0i mX6_momentOfAct [.inr (some (25, v)), .inl (nx v)] hi hr y ∧ (nx v ≠ 0 → y = mo v)) : ∀ (k a : Nat) (b : Int) (u5 u6 : Option zV), (a : Int) + k = vn → ((fwF nx mo a).1 ≠ -1 → b = (fwF nx mo a).2) → ∀ P : Int → Prop, P (fwF nx mo vn.toNat).1 → WP mX1_firstWaitingAt 7 [some (.inr (some (17, 0))), some (.inl c), some (.inl (fwF nx mo a).1), some (.inl b), some (.inl (a : Int)), u5, u6] [] hi hr (zQ0i hi hr P) := by
  intro k
  induction k with
  | zero =>
    intro a b u5 u6 h0 hb P hP
    refine GX1_firstWaitingAt_7 hR c _ _ _ _ _ ⟨fun _ => ?_, fun q => absurd q (by omega)⟩
    rw [show vn.toNat = a by omega] at hP
    exact hP
  | succ k ih =>
    intro a b u5 u6 h0 hb P hP
    obtain ⟨g1, y, g2, g3⟩ := h a (by omega) (by omega)
    have ha : 0 ≤ (a : Int) ∧ (a : Int) < 6 := by omega
    refine GX1_firstWaitingAt_7 hR c _ _ _ _ _ ⟨fun q => absurd q (by omega), fun _ => ⟨ha, g1 _ ⟨ha, g2 _ ⟨fun q => ⟨⟨by omega, by omega⟩, ?_⟩, fun q => ⟨fun q2 => ⟨⟨by omega, by omega⟩, ?_⟩, fun q2 => ⟨fun q3 => ⟨⟨by omega, by omega⟩, ?_⟩, fun q3 => ⟨⟨by omega, by omega⟩, ?_⟩⟩⟩⟩⟩⟩⟩
    · have e : fwF nx mo (a + 1) = fwF nx mo a := by
        show (if nx a = 0 then _ else _) = _
        rw [if_pos q]
      have := ih (a + 1) b (some (.inl (nx a))) (some (.inl y)) (by omega) (by rw [e]; exact hb) P hP
      rw [e] at this
      exact this
    · have e : fwF nx mo (a + 1) = ((a : Int), mo a) := by
        show (if nx a = 0 then _ else _) = _
        rw [if_neg q, if_pos (Or.inl q2)]
      have := ih (a + 1) y (some (.inl (nx a))) (some (.inl y)) (by omega) (by rw [e]; exact fun _ => g3 q) P hP
      rw [e] at this
      exact this
    · have e : fwF nx mo (a + 1) = fwF nx mo a := by
        show (if nx a = 0 then _ else _) = _
        rw [if_neg q, if_neg]
        have h3 := hb q2
        have h4 := g3 q
        omega
      have := ih (a + 1) b (some (.inl (nx a))) (some (.inl y)) (by omega) (by rw [e]; exact hb) P hP
      rw [e] at this
      exact this
    · have e : fwF nx mo (a + 1) = ((a : Int), mo a) := by
        show (if nx a = 0 then _ else _) = _
        have h3 := hb q2
        have h4 := g3 q
        rw [if_neg q, if_pos (Or.inr (by omega))]
      have := ih (a + 1) y (some (.inl (nx a))) (some (.inl y)) (by omega) (by rw [e]; exact fun _ => g3 q) P hP
      rw [e] at this
      exact this
end ZS
