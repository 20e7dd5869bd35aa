theorem mRm_bd {m : zI} {k n : Int} (h : m 37 0 37 = n) : mRm m k 37 0 37 = n - 1 := by
  unfold mRm
  rw [zup_k _ _ _ _ _ _ (by decide), zup_k _ _ _ _ _ _ (by decide), zup_k _ _ _ _ _ _ (by decide), zup_k _ _ _ _ _ _ (by decide), zup_k _ _ _ _ _ _ (by decide), zup_k _ _ _ _ _ _ (by decide), zup_k _ _ _ _ _ _ (by decide), zup_s, h]
theorem hiE.rm {m m1 : zI} {k : Int} (h : hiE m m1) : hiE m (mRm m1 k) := by
  unfold mRm
  exact (((((((h.zup (by decide)).zup (by decide)).zup (by decide)).zup (by decide)).zup (by decide)).zup (by decide)).zup (by decide)).zup (by decide)
theorem come1 {m m1 : zI} {hr : zR} (hM : RSm hr) {k so v p x cl : Int} (hk : 0 ≤ k ∧ k < m 37 0 37) (hc : m 37 0 37 ≤ 120) (e : msE m m1) (e1 : m 61 0 k = so) (e2 : m 62 0 k = v) (e3 : m 63 0 k = p) (e4 : m 64 0 k = x) (e5 : m 65 0 k = cl)
    (h : (so = 1 ∧ R1v mX12_reporting [.inr (some (37, 0)), .inl v, .inl p, .inl x] m hr m1) ∨ (so = 0 ∧ R1v mX12_granting [.inr (some (37, 0)), .inl v, .inl p, .inl x, .inl cl] m hr m1)) (P : zI → Prop) (u2 : Option zV)
    (hP : ∀ y u2', NX (mRm m1 k) y → WP mX12_messagesCome 28 [some (.inr (some (37, 0))), some (.inl y), u2'] [] (mRm m1 k) hr (zQ1v hr P)) : WP mX12_messagesCome 28 [some (.inr (some (37, 0))), some (.inl k), u2] [] m hr (zQ1v hr P) := by
  have k4 : 0 ≤ k ∧ k < 400 := by omega
  have n1 : m1 37 0 37 = m 37 0 37 := by rw [e.1]
  have z1 : zInR (m1 37 0 37 - 1) := ⟨by omega, by omega⟩
  have z2 : 0 ≤ m1 37 0 37 - 1 ∧ m1 37 0 37 - 1 < 400 := by omega
  obtain ⟨y, y1, y2⟩ := nextComing_run (m := mRm m1 k) hM (by rw [mRm_bd rfl]; omega)
  refine GX12_messagesCome_28 hM k u2 ⟨fun q => absurd q (by omega), fun _ => ⟨k4, k4, fun q => ?_, fun q => ?_⟩⟩
  · rcases h with ⟨a, b⟩ | ⟨a, b⟩
    · rw [e2, e3, e4]
      exact ⟨k4, k4, b _ ⟨z1, z2, k4, z2, k4, z2, k4, z2, k4, z2, k4, z2, k4, z2, k4, y2 _ (hP y _ y1)⟩⟩
    · exact absurd (e1.trans a) q
  · rcases h with ⟨a, b⟩ | ⟨a, b⟩
    · exact absurd ((e1.trans a).symm.trans q) (by decide)
    · rw [e2, e3, e4, e5]
      exact ⟨k4, k4, k4, b _ ⟨z1, z2, k4, z2, k4, z2, k4, z2, k4, z2, k4, z2, k4, z2, k4, y2 _ (hP y _ y1)⟩⟩
theorem dlE.low {c c' : zI} (h : dlE c c') : lowE c c' := fun k hk => h k (by omega) (by omega)
theorem dlE.trans {a b c : zI} (h : dlE a b) (h' : dlE b c) : dlE a c := fun k x y => (h' k x y).trans (h k x y)
theorem msg_step {i : Int} {pi nm0 : Int → Int} {c m0 : zI} {r : zR} (h0 : Mid i pi nm0 c r m0) (hi : 0 ≤ i ∧ i < c 7 0 3) : ∃ c', dlE c c' ∧
    (∀ (P : zI → zR → Prop) u2, (∀ u2', WP mX11_takeMessages 31 [some (.inr (some (1, 0))), some (.inl (i + 1)), u2'] [] c' r (zQ2v P)) → WP mX11_takeMessages 31 [some (.inr (some (1, 0))), some (.inl i), u2] [] c r (zQ2v P)) ∧
    ∀ m nm, Mid i pi nm c r m → ∃ m', hiE m m' ∧ (∀ hr, RSm hr → ∀ P : zI → Prop, (∀ x u2, NX m' x → WP mX12_messagesCome 28 [some (.inr (some (37, 0))), some (.inl x), u2] [] m' hr (zQ1v hr P)) → ∀ x u2, NX m x → WP mX12_messagesCome 28 [some (.inr (some (37, 0))), some (.inl x), u2] [] m hr (zQ1v hr P)) ∧ Mid (i + 1) pi nm c' r m' := by
  obtain ⟨a1, a2, a3, a4, a5, a6, a7, a8, a9, a10, a11, jm, a12, a13, a14⟩ := h0.facts
  have hR := h0.1
  have hm0 := h0.msg hi
  obtain ⟨p1, p2, p3⟩ := a9 i hi.1 (by omega)
  have i64 : 0 ≤ i ∧ i < 64 := by omega
  have zi : zInR (i + 1) := ⟨by omega, by omega⟩
  by_cases hd : c 10 (pi i) 5 = c 1 0 9
  · have fin : ∀ c', R1v mX11_deliver [.inr (some (1, 0)), .inr (some (10, pi i))] c r c' → (∀ (P : zI → zR → Prop) u2, (∀ u2', WP mX11_takeMessages 31 [some (.inr (some (1, 0))), some (.inl (i + 1)), u2'] [] c' r (zQ2v P)) → WP mX11_takeMessages 31 [some (.inr (some (1, 0))), some (.inl i), u2] [] c r (zQ2v P)) := by
      intro c' hc' P u2 hP
      refine GX11_takeMessages_31 hR i u2 ⟨fun q => absurd q (by omega), fun _ => GX5_comingAt hR _ _ ⟨fun q => absurd q (by omega), fun _ => ⟨fun q => absurd q (by omega), fun _ => ⟨fun _ => ⟨i64, pi i, p1, ⟨p2, p3⟩, fun q => absurd hd q, fun _ => ⟨i64, fun q => (by cases q), fun w q => ?_⟩⟩, fun q => absurd q (by omega)⟩⟩⟩⟩
      cases q
      exact ⟨pi i, rfl, hc' _ ⟨zi, hP _⟩⟩
    rcases hm0.1 with ho | ho
    · obtain ⟨c', d1, d2, d3⟩ := learn_step h0 hi ho
      refine ⟨c', d1, fin c' (deliver_run hR ⟨p2, p3⟩ a12 a13 a14 a2 a4 rfl ⟨hm0.2.1, hm0.2.2.1⟩ (Or.inl ⟨ho, d2⟩)), fun m nm h => ?_⟩
      obtain ⟨b1, b2, b3, b4, b5, b6, -⟩ := h.facts
      obtain ⟨m1, e1, e2, e3, e4⟩ := d3 m nm h
      obtain ⟨k, k1, k2, k3, k4, k5, k6, k7, k8, k9, k10⟩ := h.row hi (hd.trans b1)
      refine ⟨mRm m1 k, e1.rm, fun hr hM P hP x u2 hx => ?_, e4.take ⟨hi.1, ?_⟩ ?_ ⟨k1, ?_⟩ ?_ ?_⟩
      · rw [k10 x hx]
        exact come1 hM ⟨k1, k2⟩ b6 e2 k5 k6 k7 k8 k9 (Or.inl ⟨by rw [ho]; rfl, e3 hr hM⟩) P u2 hP
      · rw [d1 7 (by decide) (by decide)]; exact hi.2
      · rw [d1 10 (by decide) (by decide), e2.1]; exact hd.trans b1
      · rw [e2.1]; exact k2
      · rw [e2.1, e2.2.1]; exact k3
      · rw [e2.2.2.1]; exact k4
    · obtain ⟨c', d1, d2, d3⟩ := hear_step h0 hi ho
      refine ⟨c', d1, fin c' (deliver_run hR ⟨p2, p3⟩ a12 a13 a14 a2 a4 rfl ⟨hm0.2.1, hm0.2.2.1⟩ (Or.inr ⟨ho, d2⟩)), fun m nm h => ?_⟩
      obtain ⟨b1, b2, b3, b4, b5, b6, -⟩ := h.facts
      obtain ⟨m1, e1, e2, e3, e4⟩ := d3 m nm h
      obtain ⟨k, k1, k2, k3, k4, k5, k6, k7, k8, k9, k10⟩ := h.row hi (hd.trans b1)
      refine ⟨mRm m1 k, e1.rm, fun hr hM P hP x u2 hx => ?_, e4.take ⟨hi.1, ?_⟩ ?_ ⟨k1, ?_⟩ ?_ ?_⟩
      · rw [k10 x hx]
        exact come1 hM ⟨k1, k2⟩ b6 e2 k5 k6 k7 k8 k9 (Or.inr ⟨by rw [ho]; rfl, e3 hr hM⟩) P u2 hP
      · rw [d1 7 (by decide) (by decide)]; exact hi.2
      · rw [d1 10 (by decide) (by decide), e2.1]; exact hd.trans b1
      · rw [e2.1]; exact k2
      · rw [e2.1, e2.2.1]; exact k3
      · rw [e2.2.2.1]; exact k4
  · refine ⟨c, dlE.refl c, fun P u2 hP => ?_, fun m nm h => ⟨m, hiE.refl m, fun hr hM P hP => hP, h.skip (by rw [← h.facts.1]; exact hd)⟩⟩
    refine GX11_takeMessages_31 hR i u2 ⟨fun q => absurd q (by omega), fun _ => GX5_comingAt hR _ _ ⟨fun q => absurd q (by omega), fun _ => ⟨fun q => absurd q (by omega), fun _ => ⟨fun _ => ⟨i64, pi i, p1, ⟨p2, p3⟩, fun _ => ⟨fun _ => ⟨zi, hP _⟩, fun w q => (by cases q)⟩, fun q => absurd q hd⟩, fun q => absurd q (by omega)⟩⟩⟩⟩
theorem msg_all {pi : Int → Int} {r : zR} {sz : Int} : ∀ (n : Nat) (i : Int) (c m0 : zI) (nm0 : Int → Int), c 7 0 3 = sz → i + n = sz → 0 ≤ i → Mid i pi nm0 c r m0 → ∃ c', dlE c c' ∧
    (∀ (P : zI → zR → Prop) u2, (∀ u2', WP mX11_takeMessages 31 [some (.inr (some (1, 0))), some (.inl sz), u2'] [] c' r (zQ2v P)) → WP mX11_takeMessages 31 [some (.inr (some (1, 0))), some (.inl i), u2] [] c r (zQ2v P)) ∧
    ∀ m nm, Mid i pi nm c r m → ∃ m', hiE m m' ∧ (∀ hr, RSm hr → ∀ P : zI → Prop, (∀ x u2, NX m' x → WP mX12_messagesCome 28 [some (.inr (some (37, 0))), some (.inl x), u2] [] m' hr (zQ1v hr P)) → ∀ x u2, NX m x → WP mX12_messagesCome 28 [some (.inr (some (37, 0))), some (.inl x), u2] [] m hr (zQ1v hr P)) ∧ Mid sz pi nm c' r m' := by
  intro n
  induction n with
  | zero =>
    intro i c m0 nm0 hs hn hi h0
    have e : i = sz := by omega
    subst e
    exact ⟨c, dlE.refl c, fun P u2 hP => hP u2, fun m nm h => ⟨m, hiE.refl m, fun hr hM P hP => hP, h⟩⟩
  | succ n ih =>
    intro i c m0 nm0 hs hn hi h0
    obtain ⟨c1, d1, d2, d3⟩ := msg_step h0 ⟨hi, by omega⟩
    obtain ⟨m1, -, -, q⟩ := d3 m0 nm0 h0
    obtain ⟨c2, f1, f2, f3⟩ := ih (i + 1) c1 m1 nm0 (by rw [d1 7 (by decide) (by decide)]; exact hs) (by omega) (by omega) q
    refine ⟨c2, d1.trans f1, fun P u2 hP => d2 P u2 (fun u2' => f2 P u2' hP), fun m nm h => ?_⟩
    obtain ⟨m', x1, x2, x3⟩ := d3 m nm h
    obtain ⟨m'', y1, y2, y3⟩ := f3 m' nm x3
    exact ⟨m'', x1.trans y1, fun hr hM P hP => x2 hr hM P (y2 hr hM P hP), y3⟩
theorem RlGm.of {pi : Int → Int} {r9 : Int → Option (Nat × Int)} {c10 : Int → Int → Int} {sz vn tk sent cm : Int} {m54 m55 m69 m70 m77 m59 m60 m61 m62 m63 m64 m65 : Int → Int} (h : RlG r9 c10 sz vn tk 0 0 sent cm m54 m55 m69 m70 m77 m59 m60 m61 m62 m63 m64 m65) (hp : ∀ i, 0 ≤ i → i < 64 → r9 i = some (10, pi i)) : ∃ nm, RlGm 0 pi nm r9 c10 sz vn tk sent cm m54 m55 m69 m70 m77 m59 m60 m61 m62 m63 m64 m65 := by
  obtain ⟨pi', nm, g1, g2, g3, g4, g5, g6, g7, g8, g9, g10, g11, g12⟩ := h
  have e : ∀ i, 0 ≤ i → i < 64 → pi' i = pi i := by
    intro i a b
    have := (g1 i a b).1
    rw [hp i a b] at this
    injection this with this
    injection this with _ this
    exact this.symm
  refine ⟨nm, fun i a b => ?_, fun i i' a b d => ?_, g3, g4, g5, fun i a b => ?_, ?_, g8, g9, fun k a b => ?_, fun j x a b d f q => ?_, g12⟩
  · rw [← e i a b]; exact g1 i a b
  · rw [← e i a (by omega), ← e i' (by omega) d]; exact g2 i i' a b d
  · rw [← e i a (by omega)]; exact g6 i a b
  · rw [g7]
    refine smI_cong _ (fun j a b => ?_)
    rw [if_neg (by omega), e j a (by omega), Int.sub_zero]
  · obtain ⟨j, x, x1, x2, x3⟩ := g10 k a b
    rw [e j x1 (by omega)] at x3
    obtain ⟨y1, y2, y3⟩ := x3
    exact ⟨j, x, x1, x2, y1, y2, fun z => by omega, y3⟩
  · rw [← e j a (by omega)] at f ⊢
    exact g11 j x a b d f
/-- messages come -/
theorem Mid.start {c c1 m m1 : zI} {r : zR} {pi : Int → Int} (h : RLb c r m) (hpi : ∀ i, 0 ≤ i → i < 64 → r 9 0 i = some (10, pi i)) (c1k : ∀ k, k ≠ 36 → c1 k = c k) (c1v : ∀ u s, c1 36 u s = if 0 ≤ u ∧ u < 6 ∧ s = 5 then c 36 u 5 + 1 else c 36 u s) (m1k : ∀ k, k ≠ 66 → m1 k = m k) (m1v : ∀ u, m1 66 0 u = if 0 ≤ u ∧ u < m 37 0 10 then 0 else m 66 0 u) : ∃ nm, Mid 0 pi nm c1 r m1 := by
  obtain ⟨h1, h2, h3, h4, h5, h6, h7, h8, h9, h10, h11, h12, h13, h14⟩ := h
  obtain ⟨nm, hg⟩ := RlGm.of h13 hpi
  refine ⟨nm, ?_⟩
  unfold Mid
  simp only [c1k 1 (by decide), c1k 2 (by decide), c1k 3 (by decide), c1k 7 (by decide), c1k 8 (by decide), c1k 10 (by decide), c1k 11 (by decide), c1k 12 (by decide), c1k 13 (by decide), c1k 14 (by decide), c1k 15 (by decide), c1k 16 (by decide), c1k 17 (by decide), c1k 24 (by decide), c1k 25 (by decide), c1k 26 (by decide), c1k 28 (by decide), c1k 30 (by decide), c1k 31 (by decide), c1k 32 (by decide), c1k 33 (by decide), c1k 34 (by decide), c1k 35 (by decide), m1k 37 (by decide), m1k 38 (by decide), m1k 39 (by decide), m1k 40 (by decide), m1k 41 (by decide), m1k 42 (by decide), m1k 45 (by decide), m1k 46 (by decide), m1k 47 (by decide), m1k 48 (by decide), m1k 49 (by decide), m1k 50 (by decide), m1k 51 (by decide), m1k 52 (by decide), m1k 53 (by decide), m1k 54 (by decide), m1k 55 (by decide), m1k 56 (by decide), m1k 59 (by decide), m1k 60 (by decide), m1k 61 (by decide), m1k 62 (by decide), m1k 63 (by decide), m1k 64 (by decide), m1k 65 (by decide), m1k 67 (by decide), m1k 68 (by decide), m1k 69 (by decide), m1k 70 (by decide), m1k 71 (by decide), m1k 72 (by decide), m1k 73 (by decide), m1k 74 (by decide), m1k 75 (by decide), m1k 76 (by decide), m1k 77 (by decide), m1k 78 (by decide), m1k 79 (by decide), m1k 80 (by decide)]
  refine ⟨h1, h2, h3, h4, h5, h6, h7, h8, fun v a b => ?_, h10, h11, h12, hg, h14⟩
  obtain ⟨u1, u2, u3, u4, u5, u6, u7, u8, u9⟩ := h9 v a b
  simp only [c1v]
  rw [if_neg (by omega), if_neg (by omega), if_neg (by omega), if_neg (by omega), if_neg (by omega), if_pos ⟨a, b, trivial⟩]
  refine ⟨u1, u2, u3, u4, u5, u6, by omega, by omega, fun q => ?_⟩
  have := u9 q
  rw [m1v, if_pos ⟨a, q⟩]
  exact ⟨Or.inl ⟨rfl, by omega⟩, by omega, by omega⟩
theorem Mid.fin {c hi m m1 : zI} {r hr : zR} {pi nm pi' sg : Int → Int} {kept : Int} (h : Mid (c 7 0 3) pi nm c r m) (F : Fg c r pi (c 7 0 3) (m 37 0 61) kept (c 7 0 3) hi hr pi' sg) (m1k : ∀ k, k ≠ 73 → m1 k = m k) (m1v : ∀ u, m1 73 0 u = if 0 ≤ u ∧ u < m 37 0 10 then (if m 66 0 u = 0 then m 73 0 u + 1 else 0) else m 73 0 u) : Rl 0 0 0 1 1 (zup hi 7 0 3 kept) hr m1 := by
  obtain ⟨h1, h2, h3, h4, h5, h6, h7, h8, h9, h10, h11, h12, h13, h14⟩ := h
  have hg := RlG.forgot h13 F
  obtain ⟨f1, f2, -⟩ := F
  have e1 : ∀ k, k ≠ 7 → zup hi 7 0 3 kept k = hi k := fun k hk => zup_kf _ _ _ _ hk
  have e7 : ∀ s, zup hi 7 0 3 kept 7 0 s = if s = 3 then kept else c 7 0 s := fun s => by rw [zup_at, f1 7 (by decide)]
  unfold Rl
  simp only [e1 1 (by decide), e1 2 (by decide), e1 3 (by decide), e1 8 (by decide), e1 10 (by decide), e1 11 (by decide), e1 12 (by decide), e1 13 (by decide), e1 14 (by decide), e1 15 (by decide), e1 16 (by decide), e1 17 (by decide), e1 24 (by decide), e1 25 (by decide), e1 26 (by decide), e1 28 (by decide), e1 30 (by decide), e1 31 (by decide), e1 32 (by decide), e1 33 (by decide), e1 34 (by decide), e1 35 (by decide), e1 36 (by decide), m1k 37 (by decide), m1k 38 (by decide), m1k 39 (by decide), m1k 40 (by decide), m1k 41 (by decide), m1k 42 (by decide), m1k 45 (by decide), m1k 46 (by decide), m1k 47 (by decide), m1k 48 (by decide), m1k 49 (by decide), m1k 50 (by decide), m1k 51 (by decide), m1k 52 (by decide), m1k 53 (by decide), m1k 54 (by decide), m1k 55 (by decide), m1k 56 (by decide), m1k 59 (by decide), m1k 60 (by decide), m1k 61 (by decide), m1k 62 (by decide), m1k 63 (by decide), m1k 64 (by decide), m1k 65 (by decide), m1k 67 (by decide), m1k 68 (by decide), m1k 69 (by decide), m1k 70 (by decide), m1k 71 (by decide), m1k 72 (by decide), m1k 74 (by decide), m1k 75 (by decide), m1k 76 (by decide), m1k 77 (by decide), m1k 78 (by decide), m1k 79 (by decide), m1k 80 (by decide), f2 19 (by decide), f2 1 (by decide), e7]
  simp only [f1 1 (by decide), f1 2 (by decide), f1 3 (by decide), f1 8 (by decide), f1 11 (by decide), f1 12 (by decide), f1 13 (by decide), f1 14 (by decide), f1 15 (by decide), f1 16 (by decide), f1 17 (by decide), f1 24 (by decide), f1 25 (by decide), f1 26 (by decide), f1 28 (by decide), f1 30 (by decide), f1 31 (by decide), f1 32 (by decide), f1 33 (by decide), f1 34 (by decide), f1 35 (by decide), f1 36 (by decide)]
  refine ⟨h1.c9 f2, h2.c9 f2, h3, h4, h5, h6, h7, h8, fun v a b => ?_, h10, h11, h12, hg, h14⟩
  obtain ⟨u1, u2, u3, u4, u5, u6, u7, u8, u9⟩ := h9 v a b
  refine ⟨u1, u2, u3, u4, u5, u6, u7, u8, fun q => ?_⟩
  rw [m1v, if_pos ⟨a, q⟩]
  rcases (u9 q).1 with ⟨z1, z2⟩ | ⟨z1, z2⟩
  · rw [if_pos z1]; exact z2
  · rw [if_neg (by omega)]; exact z2
theorem take_all {c m0 : zI} {r : zR} (h0 : RLb c r m0) : ∃ c' r', lowE c c' ∧ (∀ k, k ≠ 9 → r' k = r k) ∧ (∀ k, k ≠ 7 → k ≠ 10 → k ≠ 24 → k ≠ 36 → c' k = c k) ∧ R2v mX11_takeMessages [.inr (some (1, 0))] c r c' r' ∧
    ∀ m, RLb c r m → ∃ m', hiE m m' ∧ (∀ hr, RSm hr → R1v mX12_messagesCome [.inr (some (37, 0))] m hr m') ∧ Rl 0 0 0 1 1 c' r' m' := by
  have hR := h0.1
  -- the radio's places
  obtain ⟨pi, hpi, inj⟩ : ∃ pi : Int → Int, (∀ i, 0 ≤ i → i < 64 → r 9 0 i = some (10, pi i) ∧ 0 ≤ pi i ∧ pi i < 64) ∧ (∀ i i', 0 ≤ i → i < i' → i' < 64 → pi i ≠ pi i') := by
    obtain ⟨h1, h2, h3, h4, h5, h6, h7, h8, h9, h10, h11, h12, h13, h14⟩ := h0
    obtain ⟨pi, nm, g1, g2, -⟩ := h13
    exact ⟨pi, g1, g2⟩
  have sil : ∀ u, 0 ≤ u → u < 6 → 0 ≤ c 36 u 5 ∧ c 36 u 5 ≤ 1000 := by
    intro u a b
    obtain ⟨h1, h2, h3, h4, h5, h6, h7, h8, h9, h10, h11, h12, h13, h14⟩ := h0
    have := h9 u a b
    have t := h4.2.2.1
    exact ⟨this.2.2.2.2.2.2.1, by have := this.2.2.2.2.2.2.2.1; omega⟩
  obtain ⟨c1, c1k, c1v, c1w⟩ := silUp hR 6 0 c (by decide) (by decide) (fun u a b => sil u a b)
  -- where the loop begins
  have start : ∀ m, RLb c r m → ∃ m1 nm, hiE m m1 ∧ (∀ hr, RSm hr → ∀ P : zI → Prop, (∀ x u2, NX m1 x → WP mX12_messagesCome 28 [some (.inr (some (37, 0))), some (.inl x), u2] [] m1 hr (zQ1v hr P)) → W1v mX12_messagesCome [.inr (some (37, 0))] m hr P) ∧ Mid 0 pi nm c1 r m1 := by
    intro m h
    have hv : 1 ≤ m 37 0 10 ∧ m 37 0 10 ≤ 6 ∧ 0 ≤ m 37 0 37 ∧ m 37 0 37 ≤ 120 := by
      obtain ⟨h1, h2, h3, h4, h5, h6, h7, h8, h9, h10, h11, h12, h13, h14⟩ := h
      obtain ⟨jm, j1, j2, j3, p1, p2, p3, p4, p5, p6, p7, p8, p9, p10, p11, p12, p13⟩ := h8
      obtain ⟨pi', nm, g1, g2, g3, g4, g5, g6, g7, g8, g9, g10, g11, g12⟩ := h13
      exact ⟨p11, p12, g8, g9⟩
    obtain ⟨m1, m1k, m1v, m1w⟩ := heardNo (m 37 0 10).toNat 0 m (by omega) (by omega) hv.2.1
    obtain ⟨nm, hm⟩ := Mid.start h (fun i a b => (hpi i a b).1) c1k c1v m1k m1v
    refine ⟨m1, nm, fun k hk => m1k k (by omega), fun hr hM P hP => ?_, hm⟩
    obtain ⟨x, x1, x2⟩ := nextComing_run (m := m1) hM (by rw [m1k 37 (by decide)]; omega)
    exact GX12_messagesCome (m1w hr hM P (x2 _ (hP x none x1)))
  obtain ⟨M1, NM, -, -, hmid0⟩ := start m0 h0
  obtain ⟨c2, d1, d2, d3⟩ := msg_all (sz := c1 7 0 3) (c1 7 0 3).toNat 0 c1 M1 NM rfl (by have := hmid0.facts; omega) (by omega) hmid0
  obtain ⟨M2, -, -, hmid⟩ := d3 M1 NM hmid0
  have e7 : c2 7 0 3 = c1 7 0 3 := by rw [d1 7 (by decide) (by decide)]
  rw [← e7] at hmid d2 d3
  obtain ⟨b1, b2, b3, b4, b5, b6, b7, b8, b9, b10, b11, -⟩ := hmid.facts
  have tk0 : 0 ≤ c2 1 0 9 ∧ c2 1 0 9 ≤ 600 := by omega
  obtain ⟨kept, hi, hr, pi', sg, F, w⟩ := forget_from (c := c2) hR (pi := pi) (sz := c2 7 0 3) (tk := c2 1 0 9) ⟨rfl, b7, b8⟩ tk0 (fun j a b => (hpi j a b).2) inj (fun j a b => (hmid.msg ⟨a, b⟩).2.2.2.1) (c2 7 0 3).toNat 0 0 c2 r pi (fun _ => 0) none (by omega)
    ⟨fun _ _ => rfl, fun _ _ => rfl, hpi, inj, Int.le_refl _, Int.le_refl _, b7, fun _ _ _ => rfl, fun j a b s => by rw [if_neg (by omega)], fun q a b => by omega, fun q q' a b d => by omega, fun j a b => by omega, rfl⟩
  refine ⟨zup hi 7 0 3 kept, hr, ?_, F.2.1, ?_, ?_, fun m h => ?_⟩
  · intro k hk
    rw [zup_kf _ _ _ _ (by omega), F.1 k (by omega), d1 k (by omega) (by omega), c1k k (by omega)]
  · intro k k1 k2 k3 k4
    rw [zup_kf _ _ _ _ k1, F.1 k k2, d1 k k3 k4, c1k k k4]
  · intro P hP
    refine GX11_takeMessages (c1w P (d2 P none (fun u2' => GX11_takeMessages_31 hR _ u2' ⟨fun _ => GX5_forgetCome _ (w _ ⟨hR.c9 F.2.1, hP⟩), fun q => absurd q (by omega)⟩)))
  · obtain ⟨m1, nm, x1, x2, x3⟩ := start m h
    obtain ⟨m2, y1, y2, y3⟩ := d3 m1 nm x3
    obtain ⟨t1, t2, t3, t4, -⟩ := y3.facts
    have sl : ∀ u, 0 ≤ u → u < m2 37 0 10 → 0 ≤ m2 73 0 u ∧ m2 73 0 u ≤ 1000 := by
      intro u a b
      have t := y3.facts.2.2.2.2.2.2.2.2.2.2.1
      obtain ⟨h1, h2, h3, h4, h5, h6, h7, h8, h9, h10, h11, h12, h13, h14⟩ := y3
      have := (h9 u a (by omega)).2.2.2.2.2.2.2.2 b
      omega
    obtain ⟨m3, m3k, m3v, m3w⟩ := silUpM (m2 37 0 10).toNat 0 m2 (by omega) (by omega) t4 sl
    refine ⟨m3, (x1.trans y1).trans (fun k hk => m3k k (by omega)), fun hr' hM P hP => x2 hr' hM P (y2 hr' hM P (fun x u2 hx => ?_)), ?_⟩
    · rw [y3.noRow (Int.le_refl _) x hx]
      exact GX12_messagesCome_28 hM (-1) u2 ⟨fun _ => m3w hr' hM u2 P hP, fun q => absurd rfl q⟩
    · rw [t1] at F
      exact Mid.fin y3 F m3k m3v
