theorem Mid.facts {i : Int} {pi nm : Int → Int} {c m : zI} {r : zR} (h : Mid i pi nm c r m) : c 1 0 9 = m 37 0 61 ∧ c 17 0 2 = m 37 0 10 ∧ 1 ≤ m 37 0 10 ∧ m 37 0 10 ≤ 6 ∧ 0 ≤ m 37 0 37 ∧ m 37 0 37 ≤ 120 ∧ 0 ≤ c 7 0 3 ∧ c 7 0 3 ≤ 60 ∧ (∀ j, 0 ≤ j → j < 64 → r 9 0 j = some (10, pi j) ∧ 0 ≤ pi j ∧ pi j < 64) ∧ 0 ≤ m 37 0 61 ∧ m 37 0 61 ≤ 600 ∧ ∃ jm, (0 ≤ jm ∧ jm < 2) ∧ r 1 0 6 = some (30, jm) ∧ c 30 jm 8 = m 37 0 10 := by
  obtain ⟨h1, h2, h3, h4, h5, h6, h7, h8, h9, h10, h11, h12, h13, h14⟩ := h
  obtain ⟨s1, s2, s3, s4, s5, s6, s7, s8, s9, s10, s11, s12, s13⟩ := h4
  obtain ⟨jm, j1, j2, j3, p1, p2, p3, p4, p5, p6, p7, p8, p9, p10, p11, p12, -⟩ := h8
  obtain ⟨g1, g2, g3, g4, g5, g6, g7, g8, g9, -⟩ := h13
  exact ⟨s1, s13, p11, p12, g8, g9, g3, g4, g1, s2, s3, jm, by omega, j2, p4⟩
theorem Mid.msg {i : Int} {pi nm : Int → Int} {c m : zI} {r : zR} (h : Mid i pi nm c r m) {j : Int} (hj : 0 ≤ j ∧ j < c 7 0 3) : RlM1 (c 10 (pi j)) (m 37 0 10) (m 37 0 61) 0 0 (nm j) (m 37 0 35) (m 54 0) (m 55 0) (m 69 0) (m 70 0) (m 77 0) := by
  obtain ⟨h1, h2, h3, h4, h5, h6, h7, h8, h9, h10, h11, h12, h13, h14⟩ := h
  exact h13.2.2.2.2.2.1 j hj.1 hj.2
/-- the row that comes next is message i's -/
theorem Mid.row {i : Int} {pi nm : Int → Int} {c m : zI} {r : zR} (h : Mid i pi nm c r m) (hi : 0 ≤ i ∧ i < c 7 0 3) (hd : c 10 (pi i) 5 = m 37 0 61) : ∃ k, 0 ≤ k ∧ k < m 37 0 37 ∧ m 59 0 k = m 37 0 61 ∧ m 60 0 k = nm i ∧ m 61 0 k = 1 - c 10 (pi i) 0 ∧ m 62 0 k = c 10 (pi i) 1 ∧ m 63 0 k = c 10 (pi i) 2 ∧ m 64 0 k = c 10 (pi i) 3 ∧ m 65 0 k = c 10 (pi i) 4 ∧ ∀ x, NX m x → x = k := by
  have hm := h.msg hi
  have hall := fun j hj => h.msg (j := j) hj
  obtain ⟨h1, h2, h3, h4, h5, h6, h7, h8, h9, h10, h11, h12, h13, h14⟩ := h
  obtain ⟨g1, g2, g3, g4, g5, g6, g7, g8, g9, g10, g11, g12⟩ := h13
  have h6' := hm.2.2.2.1
  obtain ⟨k, k1, k2, k3, k4⟩ := g11 i 0 hi.1 hi.2 (by omega) (by omega) (fun q => by omega)
  have hk59 : m 59 0 k = m 37 0 61 := by omega
  have rowOf : ∀ x, 0 ≤ x → x < m 37 0 37 → m 59 0 x = m 37 0 61 → m 60 0 x ≤ nm i → m 60 0 x = nm i ∧ m 61 0 x = 1 - c 10 (pi i) 0 ∧ m 62 0 x = c 10 (pi i) 1 ∧ m 63 0 x = c 10 (pi i) 2 ∧ m 64 0 x = c 10 (pi i) 3 ∧ m 65 0 x = c 10 (pi i) 4 := by
    intro x x1 x2 x3 x4
    obtain ⟨j, y, y1, y2, y3, y4, y5, y6, y7, y8⟩ := g10 x x1 x2
    have hd' := (hall j ⟨y1, y2⟩).2.2.2.2.1
    have hji : j = i := by
      by_cases q : j < i
      · exact absurd ⟨q, by omega, by omega⟩ y5
      · by_cases q' : i < j
        · have := g5 i j hi.1 q' y2
          omega
        · omega
    subst hji
    exact ⟨y7, y8⟩
  refine ⟨k, k1, k2, hk59, (rowOf k k1 k2 hk59 (by omega)).1, (rowOf k k1 k2 hk59 (by omega)).2.1, (rowOf k k1 k2 hk59 (by omega)).2.2.1, (rowOf k k1 k2 hk59 (by omega)).2.2.2.1, (rowOf k k1 k2 hk59 (by omega)).2.2.2.2.1, (rowOf k k1 k2 hk59 (by omega)).2.2.2.2.2, fun x hx => ?_⟩
  rcases hx with ⟨-, b⟩ | ⟨a, b, c', d⟩
  · exact absurd hk59 (b k k1 k2)
  · have := (rowOf x a b c' (by have := d k k1 k2 hk59; omega)).1
    by_cases q : x < k
    · rcases g12 x k a q k2 with z | z <;> omega
    · by_cases q' : k < x
      · rcases g12 k x k1 q' b with z | z <;> omega
      · omega
theorem Mid.noRow {i : Int} {pi nm : Int → Int} {c m : zI} {r : zR} (h : Mid i pi nm c r m) (hi : c 7 0 3 ≤ i) : ∀ x, NX m x → x = -1 := by
  have hall := fun j hj => h.msg (j := j) hj
  obtain ⟨h1, h2, h3, h4, h5, h6, h7, h8, h9, h10, h11, h12, h13, h14⟩ := h
  obtain ⟨g1, g2, g3, g4, g5, g6, g7, g8, g9, g10, g11, g12⟩ := h13
  intro x hx
  rcases hx with ⟨a, -⟩ | ⟨a, b, c', d⟩
  · exact a
  · exfalso
    obtain ⟨j, y, y1, y2, y3, y4, y5, y6, y7, y8⟩ := g10 x a b
    have hd' := (hall j ⟨y1, y2⟩).2.2.2.2.1
    exact y5 ⟨by omega, by omega, by omega⟩
/-- the kinds that only messages use -/
def msE (m m' : zI) : Prop := m' 37 = m 37 ∧ m' 59 = m 59 ∧ m' 60 = m 60 ∧ m' 61 = m 61 ∧ m' 62 = m 62 ∧ m' 63 = m 63 ∧ m' 64 = m 64 ∧ m' 65 = m 65
theorem msE.refl (m : zI) : msE m m := ⟨rfl, rfl, rfl, rfl, rfl, rfl, rfl, rfl⟩
theorem msE.zup {m m' : zI} {k : Nat} {j s x : Int} (h : msE m m') (hk : 37 < k ∧ k < 59 ∨ 65 < k) : msE m (zup m' k j s x) := by
  obtain ⟨h1, h2, h3, h4, h5, h6, h7, h8⟩ := h
  exact ⟨(zup_kf _ _ _ _ (by omega)).trans h1, (zup_kf _ _ _ _ (by omega)).trans h2, (zup_kf _ _ _ _ (by omega)).trans h3, (zup_kf _ _ _ _ (by omega)).trans h4, (zup_kf _ _ _ _ (by omega)).trans h5, (zup_kf _ _ _ _ (by omega)).trans h6, (zup_kf _ _ _ _ (by omega)).trans h7, (zup_kf _ _ _ _ (by omega)).trans h8⟩
/-- what delivering keeps -/
def dlE (c c' : zI) : Prop := ∀ k, k ≠ 24 → k ≠ 36 → c' k = c k
theorem dlE.refl (c : zI) : dlE c c := fun _ _ _ => rfl
theorem dlE.z24 {c c' : zI} {j s x : Int} (h : dlE c c') : dlE c (zup c' 24 j s x) := fun k a b => (zup_kf _ _ _ _ a).trans (h k a b)
theorem dlE.z36 {c c' : zI} {j s x : Int} (h : dlE c c') : dlE c (zup c' 36 j s x) := fun k a b => (zup_kf _ _ _ _ b).trans (h k a b)
theorem deliver_run {c : zI} {r : zR} (hR : RSc r) {j v jm vn : Int} (hj : 0 ≤ j ∧ j < 64) (hjm : 0 ≤ jm ∧ jm < 2) (e1 : r 1 0 6 = some (30, jm)) (e2 : c 30 jm 8 = vn) (e3 : c 17 0 2 = vn) (hvn : vn ≤ 6) (ev : c 10 j 1 = v) (hv : 0 ≤ v ∧ v < vn) {c' : zI}
    (h : (c 10 j 0 = 0 ∧ R1v mX0_learn [.inr (some (24, v)), .inr (some (10, j))] c r c') ∨ (c 10 j 0 = 1 ∧ R1v mX9_hear [.inr (some (36, v)), .inr (some (10, j))] c r c')) : R1v mX11_deliver [.inr (some (1, 0)), .inr (some (10, j))] c r c' := by
  intro P hP
  refine GX11_deliver hR j hj ?_
  rw [ev]
  refine vehicleAt_run hR hjm e1 (by omega) (some (36, v)) (Or.inl ⟨hv.1, by omega, rfl⟩) _ ?_
  refine accountAt_run hR (by omega) (some (24, v)) (Or.inl ⟨hv.1, by omega, rfl⟩) _ ?_
  refine ⟨fun q => (by cases q), fun w q => ?_⟩
  cases q
  refine ⟨v, rfl, fun q => (by cases q), fun w q => ?_⟩
  cases q
  rcases h with ⟨a, b⟩ | ⟨a, b⟩
  · exact ⟨v, rfl, fun _ => b _ hP, fun q => absurd a q⟩
  · exact ⟨v, rfl, fun q => by omega, fun _ => b _ hP⟩
theorem learn_step {i : Int} {pi nm : Int → Int} {c m0 : zI} {r : zR} (h0 : Mid i pi nm c r m0) (hi : 0 ≤ i ∧ i < c 7 0 3) (ho : c 10 (pi i) 0 = 0) :
    ∃ c', dlE c c' ∧ R1v mX0_learn [.inr (some (24, c 10 (pi i) 1)), .inr (some (10, pi i))] c r c' ∧
      ∀ m nm, Mid i pi nm c r m → ∃ m1, hiE m m1 ∧ msE m m1 ∧ (∀ hr, RSm hr → R1v mX12_reporting [.inr (some (37, 0)), .inl (c 10 (pi i) 1), .inl (c 10 (pi i) 2), .inl (c 10 (pi i) 3)] m hr m1) ∧ Mid i pi nm c' r m1 := by
  have fc := h0.facts
  have hm0 := h0.msg hi
  have hpi := fc.2.2.2.2.2.2.2.2.1 i hi.1 (by omega)
  have hv6 : 0 ≤ c 10 (pi i) 1 ∧ c 10 (pi i) 1 < 6 := ⟨hm0.2.1, by have := hm0.2.2.1; omega⟩
  have key : ∀ m nm, Mid i pi nm c r m → (0 ≤ c 10 (pi i) 1 ∧ c 10 (pi i) 1 < m 37 0 10) ∧ c 24 (c 10 (pi i) 1) 3 = m 75 0 (c 10 (pi i) 1) ∧ c 24 (c 10 (pi i) 1) 4 = m 76 0 (c 10 (pi i) 1) ∧ (0 ≤ c 10 (pi i) 2 ∧ 0 ≤ c 10 (pi i) 3 ∧ (c 10 (pi i) 2 < m 69 0 (c 10 (pi i) 1) ∨ (c 10 (pi i) 2 = m 69 0 (c 10 (pi i) 1) ∧ c 10 (pi i) 3 ≤ m 70 0 (c 10 (pi i) 1)))) := by
    intro m nm h
    have hm := h.msg hi
    obtain ⟨h1, h2, h3, h4, h5, h6, h7, h8, h9, h10, h11, h12, h13, h14⟩ := h
    have ha := h10 _ hv6.1 hv6.2
    exact ⟨⟨hm.2.1, hm.2.2.1⟩, ha.2.2.1, ha.2.2.2.1, hm.2.2.2.2.2.2.2.2.2.1 ho⟩
  by_cases q : c 24 (c 10 (pi i) 1) 3 < c 10 (pi i) 2 ∨ (c 10 (pi i) 2 = c 24 (c 10 (pi i) 1) 3 ∧ c 24 (c 10 (pi i) 1) 4 < c 10 (pi i) 3)
  · refine ⟨zup (zup c 24 (c 10 (pi i) 1) 3 (c 10 (pi i) 2)) 24 (c 10 (pi i) 1) 4 (c 10 (pi i) 3), ((dlE.refl c).z24).z24, fun P hP => GX0_learn _ _ hv6 hpi.2 ⟨fun _ => hP, fun a => ⟨fun b => absurd a (by omega), fun b => ⟨fun d => absurd d (by omega), fun _ => hP⟩⟩⟩, fun m nm h => ?_⟩
    obtain ⟨k1, k2, k3, k4⟩ := key m nm h
    refine ⟨zup (zup m 75 0 (c 10 (pi i) 1) (c 10 (pi i) 2)) 76 0 (c 10 (pi i) 1) (c 10 (pi i) 3), ((hiE.refl m).zup (by decide)).zup (by decide), ((msE.refl m).zup (by decide)).zup (by decide), fun hr hM P hP => GX12_reporting hM _ _ _ ⟨hv6, fun a => absurd a (by omega), fun a => ⟨hv6, fun b => ⟨hv6, hv6, hP⟩, fun b => ⟨hv6, fun d => ⟨hv6, hv6, hP⟩, fun d => absurd d (by omega)⟩⟩⟩, h.learn k1 k4⟩
  · refine ⟨c, dlE.refl c, fun P hP => GX0_learn _ _ hv6 hpi.2 ⟨fun a => absurd (Or.inl a) q, fun a => ⟨fun b => hP, fun b => ⟨fun d => hP, fun d => absurd (Or.inr ⟨b, d⟩) q⟩⟩⟩, fun m nm h => ?_⟩
    obtain ⟨k1, k2, k3, k4⟩ := key m nm h
    exact ⟨m, hiE.refl m, msE.refl m, fun hr hM P hP => GX12_reporting hM _ _ _ ⟨hv6, fun a => hP, fun a => ⟨hv6, fun b => absurd (Or.inl (by omega)) q, fun b => ⟨hv6, fun d => absurd (Or.inr ⟨by omega, by omega⟩) q, fun d => hP⟩⟩⟩, h⟩
theorem hear_step {i : Int} {pi nm : Int → Int} {c m0 : zI} {r : zR} (h0 : Mid i pi nm c r m0) (hi : 0 ≤ i ∧ i < c 7 0 3) (ho : c 10 (pi i) 0 = 1) :
    ∃ c', dlE c c' ∧ R1v mX9_hear [.inr (some (36, c 10 (pi i) 1)), .inr (some (10, pi i))] c r c' ∧
      ∀ m nm, Mid i pi nm c r m → ∃ m1, hiE m m1 ∧ msE m m1 ∧ (∀ hr, RSm hr → R1v mX12_granting [.inr (some (37, 0)), .inl (c 10 (pi i) 1), .inl (c 10 (pi i) 2), .inl (c 10 (pi i) 3), .inl (c 10 (pi i) 4)] m hr m1) ∧ Mid i pi nm c' r m1 := by
  have fc := h0.facts
  have hm0 := h0.msg hi
  have hpi := fc.2.2.2.2.2.2.2.2.1 i hi.1 (by omega)
  have hv6 : 0 ≤ c 10 (pi i) 1 ∧ c 10 (pi i) 1 < 6 := ⟨hm0.2.1, by have := hm0.2.2.1; omega⟩
  have key : ∀ m nm, Mid i pi nm c r m → (0 ≤ c 10 (pi i) 1 ∧ c 10 (pi i) 1 < m 37 0 10) ∧ c 36 (c 10 (pi i) 1) 1 = m 69 0 (c 10 (pi i) 1) ∧ c 36 (c 10 (pi i) 1) 2 = m 70 0 (c 10 (pi i) 1) ∧ (0 ≤ m 69 0 (c 10 (pi i) 1) ∧ m 69 0 (c 10 (pi i) 1) ≤ 60) ∧ (0 ≤ m 70 0 (c 10 (pi i) 1) ∧ m 70 0 (c 10 (pi i) 1) ≤ 300) ∧ (m 69 0 (c 10 (pi i) 1) = m 77 0 (c 10 (pi i) 1) ∨ m 69 0 (c 10 (pi i) 1) = m 77 0 (c 10 (pi i) 1) - 1) ∧
      c 10 (pi i) 2 ≤ m 77 0 (c 10 (pi i) 1) ∧ 1 ≤ c 10 (pi i) 3 ∧ (c 10 (pi i) 2 = m 77 0 (c 10 (pi i) 1) → c 10 (pi i) 3 ≤ m 54 0 (c 10 (pi i) 1) ∧ c 10 (pi i) 4 = m 55 0 (301 * c 10 (pi i) 1 + c 10 (pi i) 3)) ∧ (c 10 (pi i) 2 ≠ m 77 0 (c 10 (pi i) 1) → c 10 (pi i) 2 = m 69 0 (c 10 (pi i) 1) → c 10 (pi i) 3 ≤ m 70 0 (c 10 (pi i) 1)) := by
    intro m nm h
    have hm := h.msg hi
    obtain ⟨h1, h2, h3, h4, h5, h6, h7, h8, h9, h10, h11, h12, h13, h14⟩ := h
    have ha := h9 _ hv6.1 hv6.2
    have hb := h12 _ hm.2.1 hm.2.2.1
    have hc := h11 _ hm.2.1 hm.2.2.1
    obtain ⟨y1, y2, y3, y4, y5⟩ := hm.2.2.2.2.2.2.2.2.2.2 ho
    have := hc.2.2.2.2.2.1
    exact ⟨⟨hm.2.1, hm.2.2.1⟩, ha.2.1, ha.2.2.1, ⟨hb.2.1, by rcases hb.1 with z | z <;> omega⟩, ⟨hb.2.2.1, hb.2.2.2.1⟩, hb.1, y2, y3, y4, y5⟩
  obtain ⟨K1, K2, K3, K4, K5, K6, K7, K8, K9, K10⟩ := key m0 nm h0
  have i1 : zInR (c 36 (c 10 (pi i) 1) 1 + 1) := ⟨by omega, by omega⟩
  have i2 : zInR (c 36 (c 10 (pi i) 1) 2 + 1) := ⟨by omega, by omega⟩
  by_cases q : c 10 (pi i) 2 = c 36 (c 10 (pi i) 1) 1 + 1 ∧ c 10 (pi i) 3 = 1
  · refine ⟨zup (zup (zup (zup (zup c 36 (c 10 (pi i) 1) 5 0) 36 (c 10 (pi i) 1) 1 (c 10 (pi i) 2)) 36 (c 10 (pi i) 1) 2 0) 36 (c 10 (pi i) 1) 3 1) 36 (c 10 (pi i) 1) 4 (c 10 (pi i) 4), (((((dlE.refl c).z36).z36).z36).z36).z36, fun P hP => GX9_hear _ _ hv6 hpi.2 ⟨fun _ => ⟨i1, fun a => absurd q.1 a, fun _ => ⟨fun a => absurd q.2 a, fun _ => hP⟩⟩, fun a => absurd a (by omega)⟩, fun m nm h => ?_⟩
    obtain ⟨k1, k2, k3, k4, k5, k6, k7, k8, k9, k10⟩ := key m nm h
    have j1 : zInR (m 69 0 (c 10 (pi i) 1) + 1) := ⟨by omega, by omega⟩
    have hq : c 10 (pi i) 2 = m 77 0 (c 10 (pi i) 1) := by omega
    have z := k9 hq
    rw [q.2] at z
    refine ⟨zup (zup (zup (zup (zup (zup m 66 0 (c 10 (pi i) 1) 1) 69 0 (c 10 (pi i) 1) (c 10 (pi i) 2)) 70 0 (c 10 (pi i) 1) 0) 68 0 (c 10 (pi i) 1) 0) 71 0 (c 10 (pi i) 1) 1) 72 0 (c 10 (pi i) 1) (c 10 (pi i) 4), ((((((hiE.refl m).zup (by decide)).zup (by decide)).zup (by decide)).zup (by decide)).zup (by decide)).zup (by decide), ((((((msE.refl m).zup (by decide)).zup (by decide)).zup (by decide)).zup (by decide)).zup (by decide)).zup (by decide), fun hr hM P hP => GX12_granting hM _ _ _ _ ⟨hv6, hv6, j1, fun a => absurd a (by omega), fun _ => ⟨fun a => absurd q.2 a, fun _ => ⟨hv6, hv6, hv6, hv6, hv6, hP⟩⟩⟩, h.hear2 k1 hv6.2 ⟨by omega, k7, z.1, z.2⟩⟩
  · by_cases q' : c 10 (pi i) 2 = c 36 (c 10 (pi i) 1) 1 ∧ c 10 (pi i) 3 = c 36 (c 10 (pi i) 1) 2 + 1
    · refine ⟨zup (zup (zup c 36 (c 10 (pi i) 1) 5 0) 36 (c 10 (pi i) 1) 3 1) 36 (c 10 (pi i) 1) 4 (c 10 (pi i) 4), (((dlE.refl c).z36).z36).z36, fun P hP => GX9_hear _ _ hv6 hpi.2 ⟨fun a => absurd q'.1 a, fun _ => ⟨i2, fun a => absurd q'.2 a, fun _ => ⟨i1, fun _ => hP, fun a => absurd a (by omega)⟩⟩⟩, fun m nm h => ?_⟩
      obtain ⟨k1, k2, k3, k4, k5, k6, k7, k8, k9, k10⟩ := key m nm h
      have j1 : zInR (m 69 0 (c 10 (pi i) 1) + 1) := ⟨by omega, by omega⟩
      have j2 : zInR (m 70 0 (c 10 (pi i) 1) + 1) := ⟨by omega, by omega⟩
      have hq : c 10 (pi i) 2 = m 77 0 (c 10 (pi i) 1) := by
        by_cases y : c 10 (pi i) 2 = m 77 0 (c 10 (pi i) 1)
        · exact y
        · have := k10 y (by omega)
          omega
      have z := k9 hq
      have z3 : c 10 (pi i) 3 = m 70 0 (c 10 (pi i) 1) + 1 := by omega
      rw [z3] at z
      refine ⟨zup (zup (zup m 66 0 (c 10 (pi i) 1) 1) 71 0 (c 10 (pi i) 1) 1) 72 0 (c 10 (pi i) 1) (c 10 (pi i) 4), (((hiE.refl m).zup (by decide)).zup (by decide)).zup (by decide), (((msE.refl m).zup (by decide)).zup (by decide)).zup (by decide), fun hr hM P hP => GX12_granting hM _ _ _ _ ⟨hv6, hv6, j1, fun _ => ⟨hv6, fun a => absurd a (by omega), fun _ => ⟨hv6, j2, fun _ => ⟨hv6, hv6, hP⟩, fun a => absurd a (by omega)⟩⟩, fun a => absurd a (by omega)⟩, h.hear1 k1 hv6.2 ⟨by omega, z.1, ?_⟩⟩
      rw [Int.add_assoc]
      exact z.2
    · refine ⟨zup c 36 (c 10 (pi i) 1) 5 0, (dlE.refl c).z36, fun P hP => GX9_hear _ _ hv6 hpi.2 ⟨fun _ => ⟨i1, fun _ => hP, fun a => ⟨fun _ => hP, fun b => absurd ⟨a, b⟩ q⟩⟩, fun a => ⟨i2, fun _ => ⟨i1, fun _ => hP, fun b => absurd b (by omega)⟩, fun b => absurd ⟨a, b⟩ q'⟩⟩, fun m nm h => ?_⟩
      obtain ⟨k1, k2, k3, k4, k5, k6, k7, k8, k9, k10⟩ := key m nm h
      have j1 : zInR (m 69 0 (c 10 (pi i) 1) + 1) := ⟨by omega, by omega⟩
      have j2 : zInR (m 70 0 (c 10 (pi i) 1) + 1) := ⟨by omega, by omega⟩
      refine ⟨zup m 66 0 (c 10 (pi i) 1) 1, (hiE.refl m).zup (by decide), (msE.refl m).zup (by decide), fun hr hM P hP => GX12_granting hM _ _ _ _ ⟨hv6, hv6, j1, fun _ => ⟨hv6, fun a => hP, fun a => ⟨hv6, j2, fun b => absurd ⟨by omega, by omega⟩ q', fun _ => hP⟩⟩, fun a => ⟨fun _ => ⟨hv6, fun _ => hP, fun b => absurd b (by omega)⟩, fun b => absurd ⟨by omega, b⟩ q⟩⟩, h.hear0 k1 hv6.2⟩
