theorem nxW_cong {m54 m55 m75 m76 m77 n54 n55 n75 n76 n77 : Int → Int} {c v : Int} (h54 : m54 v = n54 v) (h0 : 0 ≤ n54 v) (hk : knF m75 m76 m77 v = knF n75 n76 n77 v) (hk1 : 0 ≤ knF n75 n76 n77 v ∧ knF n75 n76 n77 v ≤ n54 v) (h55 : ∀ i, 1 ≤ i → i ≤ n54 v → m55 (301 * v + i) = n55 (301 * v + i)) : nxW m54 m55 m75 m76 m77 c v = nxW n54 n55 n75 n76 n77 c v := by
  unfold nxW
  rw [h54, hk]
  have e : fnoF (fun i => m55 (301 * v + i)) (n54 v) (knF n75 n76 n77 v) = fnoF (fun i => n55 (301 * v + i)) (n54 v) (knF n75 n76 n77 v) := by
    unfold fnoF
    rw [lastF_cong (B := fun i => n55 (301 * v + i)) _ (fun i a b => h55 i a (by omega))]
  rw [e]
  have hf := fnoF_pos (fun i => n55 (301 * v + i)) (kn := knF n75 n76 n77 v) h0
  have hf2 := hf.2 hk1.2
  exact nxtF_cong c _ _ (fun i a b => h55 i (by omega) (by omega))
theorem fwF_cong {nx mo nx' mo' : Int → Int} : ∀ n : Nat, (∀ v : Int, 0 ≤ v → v < n → nx v = nx' v ∧ (nx' v ≠ 0 → mo v = mo' v)) → fwF nx mo n = fwF nx' mo' n := by
  intro n
  induction n with
  | zero => exact fun _ => rfl
  | succ n ih =>
    intro h
    have i := ih (fun v a b => h v a (by omega))
    have hn := h n (by omega) (by omega)
    unfold fwF
    rw [i, hn.1]
    by_cases q : nx' n = 0
    · rw [if_pos q, if_pos q]
    · rw [if_neg q, if_neg q, hn.2 q]
/-- both know the same waiting -/
theorem Rl.waitSame {f a s l e : Int} {c m0 m : zI} {r : zR} (h0 : Rl f a s l e c r m0) (h : Rl f a s l e c r m) (cl : Int) : (fwW (m 54 0) (m 55 0) (m 56 0) (m 75 0) (m 76 0) (m 77 0) cl (m 37 0 10).toNat).1 = (fwW (m0 54 0) (m0 55 0) (m0 56 0) (m0 75 0) (m0 76 0) (m0 77 0) cl (m0 37 0 10).toNat).1 ∧ ∀ v, 0 ≤ v → v < m0 37 0 10 → nxW (m 54 0) (m 55 0) (m 75 0) (m 76 0) (m 77 0) cl v = nxW (m0 54 0) (m0 55 0) (m0 75 0) (m0 76 0) (m0 77 0) cl v := by
  have e10 := (h0.same h).1.2.2.1
  have W0 := (waits_run h0 cl).2.2.1
  have n0 := h0.num
  obtain ⟨h1, h2, h3, h4, h5, h6, h7, h8, h9, h10, h11, h12, h13, h14⟩ := h0
  obtain ⟨g1, g2, g3, g4, g5, g6, g7, g8, g9, g10, g11, g12, g13, g14⟩ := h
  have nx : ∀ v, 0 ≤ v → v < m0 37 0 10 → nxW (m 54 0) (m 55 0) (m 75 0) (m 76 0) (m 77 0) cl v = nxW (m0 54 0) (m0 55 0) (m0 75 0) (m0 76 0) (m0 77 0) cl v := by
    intro v v0 v1
    obtain ⟨a1, a2, a3, a4, a5⟩ := W0.2.2 v v0 v1
    have x := h11 v v0 v1
    have y := g11 v v0 (by omega)
    have e54 : m 54 0 v = m0 54 0 v := y.2.1.symm.trans x.2.1
    refine nxW_cong e54 a1 ((kn_eq g10 v0 (by omega)).symm.trans (kn_eq h10 v0 (by omega))) ⟨a3, a4⟩ (fun i i0 i1 => ?_)
    exact (y.2.2.2.2.2.2.1 i i0 (by omega)).1.symm.trans (x.2.2.2.2.2.2.1 i i0 i1).1
  refine ⟨?_, nx⟩
  unfold fwW
  rw [e10]
  refine congrArg Prod.fst (fwF_cong _ (fun v v0 v1 => ⟨nx v v0 (by omega), fun hne => ?_⟩))
  have v1' : v < m0 37 0 10 := by omega
  rw [nx v v0 v1']
  rcases nxW_spec W0 v0 v1' cl with z | ⟨z1, z2, -⟩
  · exact absurd z hne
  · have x := h11 v v0 v1'
    have y := g11 v v0 (by omega)
    have e54 : m 54 0 v = m0 54 0 v := y.2.1.symm.trans x.2.1
    exact (y.2.2.2.2.2.2.1 _ z1 (by omega)).2.1.symm.trans (x.2.2.2.2.2.2.1 _ z1 z2).2.1
theorem Rl.wt {f a s l e : Int} {c m : zI} {r : zR} (h : Rl f a s l e c r m) (w x y : Int) : Rl f a s l e c r (wtS m w x y) := by
  obtain ⟨h1, h2, h3, h4, h5, h6, h7, h8, h9, h10, h11, h12, h13, h14⟩ := h
  exact ⟨h1, h2, h3, h4, h5, h6, h7, h8, h9, h10, h11, h12, h13, h14⟩
theorem hiE.wt (m : zI) (w x y : Int) : hiE m (wtS m w x y) := fun k hk => wtS_k _ _ _ _ (by omega)
/-- an act is granted -/
theorem Rl.granted {f a s l e v n : Int} {c m : zI} {r : zR} (h : Rl f a s l e c r m) (hv : 0 ≤ v ∧ v < m 37 0 10) (hn : 0 ≤ n ∧ n ≤ m 54 0 v) : Rl f a s l e (zup (zup c 24 v 5 n) 24 v 6 (c 1 0 9)) r (zup (zup m 79 0 v n) 80 0 v (m 37 0 61)) := by
  obtain ⟨h1, h2, h3, h4, h5, h6, h7, h8, h9, h10, h11, h12, h13, h14⟩ := h
  refine ⟨h1, h2, h3, h4, h5, h6, h7, h8, h9, ?_, h11, ?_, h13, h14⟩
  · intro u x y
    have hu := h10 u x y
    have ek := h4.1
    have tk0 := h4.2.1
    show zup (zup c 24 v 5 n) 24 v 6 (c 1 0 9) 24 u 1 = _ ∧ zup (zup c 24 v 5 n) 24 v 6 (c 1 0 9) 24 u 2 = _ ∧ zup (zup c 24 v 5 n) 24 v 6 (c 1 0 9) 24 u 3 = _ ∧ zup (zup c 24 v 5 n) 24 v 6 (c 1 0 9) 24 u 4 = _ ∧ zup (zup c 24 v 5 n) 24 v 6 (c 1 0 9) 24 u 5 = zup m 79 0 v n 79 0 u ∧ zup (zup c 24 v 5 n) 24 v 6 (c 1 0 9) 24 u 6 = zup m 80 0 v (m 37 0 61) 80 0 u ∧ 0 ≤ zup m 80 0 v (m 37 0 61) 80 0 u ∧ zup m 80 0 v (m 37 0 61) 80 0 u ≤ m 37 0 61 ∧ _
    by_cases q : u = v
    · subst q
      simp only [zup_at]
      simp
      exact ⟨hu.1, hu.2.1, hu.2.2.1, hu.2.2.2.1, ek, tk0, hu.2.2.2.2.2.2.2.2⟩
    · simp only [zup_j _ _ _ _ _ _ q, zup_f _ _ _ _ _ _ q]
      exact hu
  · intro u x y
    obtain ⟨w1, w2, w3, w4, w5, w6, w7, w8, w9, w10, w11⟩ := h12 u x y
    refine ⟨w1, w2, w3, w4, w5, w6, w7, w8, w9, ?_⟩
    show 0 ≤ zup m 79 0 v n 79 0 u ∧ zup m 79 0 v n 79 0 u ≤ m 54 0 u
    rw [zup_at]
    by_cases q : u = v
    · rw [if_pos q, q]; exact hn
    · rw [if_neg q]; exact ⟨w10, w11⟩
theorem grant1 {v : Int} {c m0 : zI} {r : zR} (h0 : Rl 6 6 (6 + v) 1 1 c r m0) (hv : 0 ≤ v ∧ v < c 17 0 2) : ∃ c', lowE c c' ∧ c' 17 = c 17 ∧ c' 1 = c 1 ∧ c' 11 = c 11 ∧
    (∀ (P : zI → Prop) u4 u5, (∀ u4' u5', WP mX1_sendGrants 2 [some (.inr (some (17, 0))), some (.inr (some (7, 0))), some (.inl (c 1 0 9)), some (.inl (v + 1)), u4', u5'] [] c' r (zQ1v r P)) → WP mX1_sendGrants 2 [some (.inr (some (17, 0))), some (.inr (some (7, 0))), some (.inl (c 1 0 9)), some (.inl v), u4, u5] [] c r (zQ1v r P)) ∧
    ∀ m, Rl 6 6 (6 + v) 1 1 c r m → ∃ m', hiE m m' ∧ (∀ hr, RSm hr → R1v mX12_grants [.inr (some (37, 0)), .inl v] m hr m') ∧ Rl 6 6 (6 + (v + 1)) 1 1 c' r m' := by
  have R := h0.1
  have n0 := h0.num
  have v6 : 0 ≤ v ∧ v < 6 := by omega
  have zv : zInR (v + 1) := ⟨by omega, by omega⟩
  obtain ⟨kn, ekn⟩ : ∃ kn, kn = (if c 24 v 3 = c 24 v 1 then c 24 v 4 else 0) := ⟨_, rfl⟩
  -- what is the same of all references
  have fact : ∀ m, Rl 6 6 (6 + v) 1 1 c r m → v < m 37 0 10 ∧ m 37 0 61 = c 1 0 9 ∧ (0 ≤ m 37 0 61 ∧ m 37 0 61 ≤ 600) ∧ knF (m 75 0) (m 76 0) (m 77 0) v = kn ∧ c 25 v 5 = m 54 0 v ∧ (0 ≤ m 54 0 v ∧ m 54 0 v ≤ 300) ∧ (0 ≤ kn ∧ kn ≤ m 54 0 v) ∧ (1 ≤ m 54 0 v → 1 ≤ m 77 0 v) ∧ c 24 v 5 = m 79 0 v ∧ c 24 v 6 = m 80 0 v ∧ (0 ≤ m 80 0 v ∧ m 80 0 v ≤ m 37 0 61) ∧ c 24 v 1 = m 77 0 v ∧ (∀ i, 1 ≤ i → i ≤ m 54 0 v → aC (c 25) (c 26) (c 28) v i = m 55 0 (301 * v + i) ∧ c 28 v i = m 56 0 (301 * v + i)) ∧ (0 ≤ m 79 0 v ∧ m 79 0 v ≤ m 54 0 v) ∧ (m 37 0 10 ≤ 6) := by
    intro m h
    have nn := h.num
    have W := ((waits_run h 0).2.2.1).2.2 v hv.1 (by omega)
    obtain ⟨h1, h2, h3, h4, h5, h6, h7, h8, h9, h10, h11, h12, h13, h14⟩ := h
    have x := h11 v hv.1 (by omega)
    obtain ⟨w1, w2, w3, w4, w5, w6, w7, w8, w9, w10⟩ := h10 v hv.1 v6.2
    have ke := kn_eq h10 hv.1 v6.2
    rw [← ekn] at ke
    refine ⟨by omega, nn.2.2.1.symm, nn.2.2.2.1, ke.symm, x.2.1, ⟨x.2.2.1, x.2.2.2.1⟩, ?_, fun z => ?_, w5, w6, ⟨w7, w8⟩, w1, fun i i0 i1 => ⟨(x.2.2.2.2.2.2.1 i i0 i1).1, (x.2.2.2.2.2.2.1 i i0 i1).2.1⟩, (h12 v hv.1 (by omega)).2.2.2.2.2.2.2.2.2, by omega⟩
    · rw [ke]; exact ⟨W.2.2.1, W.2.2.2.1⟩
    · rcases x.2.2.2.2.2.2.2.2 with y | y
      · omega
      · exact y.1
  obtain ⟨b1, b2, b3, b4, b5, b6, b7, b8, b9, b10, b11, b12, b13, b14, b15⟩ := fact m0 h0
  have rt0 : rtOK (c 25) (c 28) v := RlR.rt h0.2.2.2.2.2.2.2.2.2.2.1 (by omega) hv.1 (by omega)
  have ka := actsKnown_run (hi := c) (hr := r) v6
  rw [← ekn] at ka
  have zk : zInR (kn + 1) := ⟨by omega, by omega⟩
  -- no grant
  have none1 : (∀ (P : zI → Prop) u4 u5, (∀ u4' u5', WP mX1_sendGrants 2 [some (.inr (some (17, 0))), some (.inr (some (7, 0))), some (.inl (c 1 0 9)), some (.inl (v + 1)), u4', u5'] [] c r (zQ1v r P)) → WP mX1_sendGrants 2 [some (.inr (some (17, 0))), some (.inr (some (7, 0))), some (.inl (c 1 0 9)), some (.inl v), u4, u5] [] c r (zQ1v r P)) →
      (∀ m, Rl 6 6 (6 + v) 1 1 c r m → ∃ m', hiE m m' ∧ (∀ hr, RSm hr → R1v mX12_grants [.inr (some (37, 0)), .inl v] m hr m') ∧ Rl 6 6 (6 + v) 1 1 c r m') →
      ∃ c', lowE c c' ∧ c' 17 = c 17 ∧ c' 1 = c 1 ∧ c' 11 = c 11 ∧
    (∀ (P : zI → Prop) u4 u5, (∀ u4' u5', WP mX1_sendGrants 2 [some (.inr (some (17, 0))), some (.inr (some (7, 0))), some (.inl (c 1 0 9)), some (.inl (v + 1)), u4', u5'] [] c' r (zQ1v r P)) → WP mX1_sendGrants 2 [some (.inr (some (17, 0))), some (.inr (some (7, 0))), some (.inl (c 1 0 9)), some (.inl v), u4, u5] [] c r (zQ1v r P)) ∧
    ∀ m, Rl 6 6 (6 + v) 1 1 c r m → ∃ m', hiE m m' ∧ (∀ hr, RSm hr → R1v mX12_grants [.inr (some (37, 0)), .inl v] m hr m') ∧ Rl 6 6 (6 + (v + 1)) 1 1 c' r m' := by
    intro k1 k2
    refine ⟨c, lowE.refl c, rfl, rfl, rfl, k1, fun m h => ?_⟩
    obtain ⟨m', x1, x2, x3⟩ := k2 m h
    exact ⟨m', x1, x2, x3.mono (by omega) (by omega) (by omega) (by omega)⟩
  by_cases q1 : kn + 1 ≤ m0 54 0 v
  · -- there is a next act
    have ha : R0i mX6_hasAct [.inr (some (25, v)), .inl (kn + 1)] c r 1 := hasAct_run v6 (by omega) 1 (Or.inl ⟨rfl, by omega, by omega⟩)
    have ac : R0r mX1_accountAt [.inr (some (17, 0)), .inl v] c r (some (24, v)) := accountAt_run R (by omega) (some (24, v)) (Or.inl ⟨hv.1, hv.2, rfl⟩)
    have mo := momentOfAct_run (hi := c) (hr := r) R (l := kn + 1) v6 (by omega) (c 28 v (kn + 1)) (Or.inl ⟨rfl, by omega, by omega⟩)
    have ce := cellOfAct_run (hi := c) (hr := r) R (l := kn + 1) v6 rt0 (aC (c 25) (c 26) (c 28) v (kn + 1)) (Or.inl ⟨rfl, by omega, by omega⟩)
    -- the class when it is not due, when it is
    have cNo : (∀ P : Int → Prop, P 0 → W0i mX1_isGrantDue [.inr (some (17, 0)), .inl v, .inl (kn + 1), .inl (c 1 0 9)] c r P) → (∀ (P : zI → Prop) u4 u5, (∀ u4' u5', WP mX1_sendGrants 2 [some (.inr (some (17, 0))), some (.inr (some (7, 0))), some (.inl (c 1 0 9)), some (.inl (v + 1)), u4', u5'] [] c r (zQ1v r P)) → WP mX1_sendGrants 2 [some (.inr (some (17, 0))), some (.inr (some (7, 0))), some (.inl (c 1 0 9)), some (.inl v), u4, u5] [] c r (zQ1v r P)) :=
      fun hd P u4 u5 hP => GX1_sendGrants_2 R _ v u4 u5 ⟨fun z => absurd z (by omega), fun _ => ⟨v6, ka _ ⟨zk, ha _ ⟨fun z => absurd z (by decide), fun _ => hd _ ⟨fun _ => ⟨zv, hP _ _⟩, fun z => absurd rfl z⟩⟩⟩⟩⟩
    -- the grant
    have yes : (∀ P : Int → Prop, P 1 → W0i mX1_isGrantDue [.inr (some (17, 0)), .inl v, .inl (kn + 1), .inl (c 1 0 9)] c r P) →
        (∀ m, Rl 6 6 (6 + v) 1 1 c r m → ∃ mb, hiE m mb ∧ Rl 6 6 (6 + v) 1 1 c r mb ∧ (mb 54 0 v = m 54 0 v ∧ mb 37 0 10 = m 37 0 10 ∧ mb 37 0 61 = m 37 0 61 ∧ mb 77 0 v = m 77 0 v ∧ mb 55 = m 55) ∧ ∀ hr, RSm hr → ∀ P : zI → Prop, W1v mX12_sends [.inr (some (37, 0)), .inl 0, .inl v, .inl (m 77 0 v), .inl (kn + 1), .inl (m 55 0 (301 * v + (kn + 1)))] (zup (zup mb 79 0 v (kn + 1)) 80 0 v (m 37 0 61)) hr P → W1v mX12_grants [.inr (some (37, 0)), .inl v] m hr P) →
        ∃ c', lowE c c' ∧ c' 17 = c 17 ∧ c' 1 = c 1 ∧ c' 11 = c 11 ∧
    (∀ (P : zI → Prop) u4 u5, (∀ u4' u5', WP mX1_sendGrants 2 [some (.inr (some (17, 0))), some (.inr (some (7, 0))), some (.inl (c 1 0 9)), some (.inl (v + 1)), u4', u5'] [] c' r (zQ1v r P)) → WP mX1_sendGrants 2 [some (.inr (some (17, 0))), some (.inr (some (7, 0))), some (.inl (c 1 0 9)), some (.inl v), u4, u5] [] c r (zQ1v r P)) ∧
    ∀ m, Rl 6 6 (6 + v) 1 1 c r m → ∃ m', hiE m m' ∧ (∀ hr, RSm hr → R1v mX12_grants [.inr (some (37, 0)), .inl v] m hr m') ∧ Rl 6 6 (6 + (v + 1)) 1 1 c' r m' := by
      intro hd hm
      have hG0 := h0.granted (v := v) (n := kn + 1) ⟨hv.1, b1⟩ ⟨by omega, q1⟩
      obtain ⟨c', s1, s2, s3, s4⟩ := send_step (g := 1) (v := v) (p := c 24 v 1) (x := kn + 1) (cl := aC (c 25) (c 26) (c 28) v (kn + 1)) hG0 (by omega) (Or.inr rfl)
      refine ⟨c', (((lowE.refl c).zup (by decide)).zup (by decide)).trans s1, ?_, ?_, ?_, fun P u4 u5 hP => ?_, fun m h => ?_⟩
      · rw [s2 17 (by decide) (by decide), zup_kf _ _ _ _ (by decide), zup_kf _ _ _ _ (by decide)]
      · rw [s2 1 (by decide) (by decide), zup_kf _ _ _ _ (by decide), zup_kf _ _ _ _ (by decide)]
      · rw [s2 11 (by decide) (by decide), zup_kf _ _ _ _ (by decide), zup_kf _ _ _ _ (by decide)]
      · refine GX1_sendGrants_2 R _ v u4 u5 ⟨fun z => absurd z (by omega), fun _ => ⟨v6, ka _ ⟨zk, ha _ ⟨fun z => absurd z (by decide), fun _ => hd _ ⟨fun z => absurd z (by decide), fun _ => ?_⟩⟩⟩⟩⟩
        refine cellOfAct_run (hi := zup (zup c 24 v 5 (kn + 1)) 24 v 6 (c 1 0 9)) R (l := kn + 1) v6 (show rtOK (c 25) (c 28) v from rt0) (aC (c 25) (c 26) (c 28) v (kn + 1)) (Or.inl ⟨rfl, by omega, show kn + 1 ≤ c 25 v 5 by omega⟩) _ ?_
        exact s3 _ ⟨zv, hP _ _⟩
      · obtain ⟨d1, d2, d3, d4, d5, d6, d7, d8, d9, d10, d11, d12, d13, d14, d15⟩ := fact m h
        obtain ⟨mb, x1, x2, ⟨x54, x10, x61, x77, x55⟩, x3⟩ := hm m h
        have hG := x2.granted (v := v) (n := kn + 1) (by omega) ⟨by omega, by omega⟩
        rw [x61] at hG
        have ecl := (d13 (kn + 1) (by omega) (by omega)).1
        obtain ⟨m', y1, y2, y3⟩ := s4 _ hG (show 0 ≤ v ∧ v < mb 37 0 10 by omega) (fun z => absurd z (by decide)) (fun _ => by
          show 1 ≤ c 24 v 1 ∧ c 24 v 1 ≤ mb 77 0 v ∧ 1 ≤ kn + 1 ∧ (c 24 v 1 = mb 77 0 v → kn + 1 ≤ mb 54 0 v ∧ aC (c 25) (c 26) (c 28) v (kn + 1) = mb 55 0 (301 * v + (kn + 1))) ∧ (c 24 v 1 ≠ mb 77 0 v → c 24 v 1 = mb 69 0 v → kn + 1 ≤ mb 70 0 v)
          have := d8 (by omega)
          rw [x77, x54, x55]
          exact ⟨by omega, by omega, by omega, fun _ => ⟨by omega, ecl⟩, fun z => absurd d12 z⟩)
        refine ⟨m', (x1.trans (((hiE.refl mb).zup (by decide)).zup (by decide))).trans y1, fun hr hM P hP => x3 hr hM P ?_, ?_⟩
        · have := y2 hr hM P hP
          rw [d12, ecl] at this
          exact this
        · rw [show 6 + (v + 1) = 6 + v + 1 by omega]
          exact y3
    by_cases q2 : kn + 1 ≤ c 24 v 5
    · by_cases q3 : c 1 0 9 - c 24 v 6 < 4
      · -- granted not long ago
        refine none1 (cNo (fun P hP => GX1_isGrantDue R v _ _ (ac _ ⟨fun z => (by cases z), fun w z => ?_⟩))) (fun m h => ⟨m, hiE.refl m, fun hr hM P hP => ?_, h⟩)
        · cases z
          exact ⟨v, rfl, fun z => absurd z (by omega), fun _ => ⟨⟨by omega, by omega⟩, fun _ => hP, fun z => absurd z (by omega)⟩⟩
        · obtain ⟨d1, d2, d3, d4, d5, d6, d7, d8, d9, d10, d11, d12, d13, d14, d15⟩ := fact m h
          refine GX12_grants hM v (known_run hM v6 _ ?_)
          rw [d4]
          exact ⟨zk, v6, fun _ => hP, fun _ => ⟨v6, fun _ => ⟨⟨by omega, by omega⟩, ⟨by omega, by omega⟩, by omega, v6, fun z => absurd z (by omega), fun _ => ⟨v6, ⟨by omega, by omega⟩, fun z => absurd z (by omega), fun _ => hP⟩⟩, fun z => absurd z (by omega)⟩⟩
      · -- again
        refine yes (fun P hP => GX1_isGrantDue R v _ _ (ac _ ⟨fun z => (by cases z), fun w z => ?_⟩)) (fun m h => ⟨m, hiE.refl m, h, ⟨rfl, rfl, rfl, rfl, rfl⟩, fun hr hM P hP => ?_⟩)
        · cases z
          exact ⟨v, rfl, fun z => absurd z (by omega), fun _ => ⟨⟨by omega, by omega⟩, fun z => absurd z q3, fun _ => hP⟩⟩
        · obtain ⟨d1, d2, d3, d4, d5, d6, d7, d8, d9, d10, d11, d12, d13, d14, d15⟩ := fact m h
          have := d8 (by omega)
          refine GX12_grants hM v (known_run hM v6 _ ?_)
          rw [d4]
          exact ⟨zk, v6, fun z => absurd z (by omega), fun _ => ⟨v6, fun _ => ⟨⟨by omega, by omega⟩, ⟨by omega, by omega⟩, by omega, v6, fun z => absurd z (by omega), fun _ => ⟨v6, ⟨by omega, by omega⟩, fun _ => ⟨v6, v6, v6, hP⟩, fun z => absurd z (by omega)⟩⟩, fun z => absurd z (by omega)⟩⟩
    · by_cases q4 : c 1 0 9 + 1 < c 28 v (kn + 1)
      · -- too early
        refine none1 (cNo (fun P hP => GX1_isGrantDue R v _ _ (ac _ ⟨fun z => (by cases z), fun w z => ?_⟩))) (fun m h => ⟨m, hiE.refl m, fun hr hM P hP => ?_, h⟩)
        · cases z
          exact ⟨v, rfl, fun _ => ⟨v6, mo _ ⟨⟨by omega, by omega⟩, fun z => absurd z (by omega), fun _ => hP⟩⟩, fun z => absurd z q2⟩
        · obtain ⟨d1, d2, d3, d4, d5, d6, d7, d8, d9, d10, d11, d12, d13, d14, d15⟩ := fact m h
          have e13 := d13 (kn + 1) (by omega) (by omega)
          refine GX12_grants hM v (known_run hM v6 _ ?_)
          rw [d4]
          exact ⟨zk, v6, fun _ => hP, fun _ => ⟨v6, fun _ => ⟨⟨by omega, by omega⟩, ⟨by omega, by omega⟩, by omega, v6, fun _ => ⟨⟨by omega, by omega⟩, ⟨by omega, by omega⟩, by omega, ⟨by omega, by omega⟩, fun z => absurd z (by omega), fun _ => hP⟩, fun z => absurd z (by omega)⟩, fun z => absurd z (by omega)⟩⟩
      · by_cases q5 : aC (c 25) (c 26) (c 28) v (kn + 1) = -1
        · -- an act in its place
          refine yes (fun P hP => GX1_isGrantDue R v _ _ (ac _ ⟨fun z => (by cases z), fun w z => ?_⟩)) (fun m h => ⟨m, hiE.refl m, h, ⟨rfl, rfl, rfl, rfl, rfl⟩, fun hr hM P hP => ?_⟩)
          · cases z
            exact ⟨v, rfl, fun _ => ⟨v6, mo _ ⟨⟨by omega, by omega⟩, fun _ => ⟨v6, ce _ ⟨fun _ => hP, fun z => absurd q5 z⟩⟩, fun z => absurd z q4⟩⟩, fun z => absurd z q2⟩
          · obtain ⟨d1, d2, d3, d4, d5, d6, d7, d8, d9, d10, d11, d12, d13, d14, d15⟩ := fact m h
            have e13 := d13 (kn + 1) (by omega) (by omega)
            have := d8 (by omega)
            refine GX12_grants hM v (known_run hM v6 _ ?_)
            rw [d4]
            exact ⟨zk, v6, fun z => absurd z (by omega), fun _ => ⟨v6, fun _ => ⟨⟨by omega, by omega⟩, ⟨by omega, by omega⟩, by omega, v6, fun _ => ⟨⟨by omega, by omega⟩, ⟨by omega, by omega⟩, by omega, ⟨by omega, by omega⟩, fun _ => ⟨fun _ => ⟨v6, v6, v6, hP⟩, fun z => absurd (e13.1.symm.trans q5) z⟩, fun z => absurd z (by omega)⟩, fun z => absurd z (by omega)⟩, fun z => absurd z (by omega)⟩⟩
        · -- a move: who waits first?
          obtain ⟨F, eF⟩ : ∃ F, F = (fwW (m0 54 0) (m0 55 0) (m0 56 0) (m0 75 0) (m0 76 0) (m0 77 0) (aC (c 25) (c 26) (c 28) v (kn + 1)) (m0 37 0 10).toNat).1 := ⟨_, rfl⟩
          obtain ⟨X, eX⟩ : ∃ X, X = nxW (m0 54 0) (m0 55 0) (m0 75 0) (m0 76 0) (m0 77 0) (aC (c 25) (c 26) (c 28) v (kn + 1)) v := ⟨_, rfl⟩
          have wr := waits_run h0 (aC (c 25) (c 26) (c 28) v (kn + 1))
          have wF := wr.2.1
          rw [← eF] at wF
          have wX := wr.2.2.2 v hv.1 b1
          rw [← eX] at wX
          -- the reference's waiting
          have rw1 : ∀ m, Rl 6 6 (6 + v) 1 1 c r m → ∃ w fa, (F = v → fa = X) ∧ ∀ hr, RSm hr → R1v mX12_waitFor [.inr (some (37, 0)), .inl (m 55 0 (301 * v + (kn + 1)))] m hr (wtS m w F fa) := by
            intro m h
            obtain ⟨d1, d2, d3, d4, d5, d6, d7, d8, d9, d10, d11, d12, d13, d14, d15⟩ := fact m h
            have e13 := d13 (kn + 1) (by omega) (by omega)
            have ws := h0.waitSame h (aC (c 25) (c 26) (c 28) v (kn + 1))
            have W := (waits_run h (aC (c 25) (c 26) (c 28) v (kn + 1))).2.2.1
            refine ⟨smI (ctW (m 54 0) (m 55 0) (m 75 0) (m 76 0) (m 77 0) (aC (c 25) (c 26) (c 28) v (kn + 1))) (m 37 0 10).toNat, faW (nxW (m 54 0) (m 55 0) (m 75 0) (m 76 0) (m 77 0) (aC (c 25) (c 26) (c 28) v (kn + 1))) F, ?_, fun hr hM => ?_⟩
            rotate_left
            · have := waitFor_run hM (c := aC (c 25) (c 26) (c 28) v (kn + 1)) q5 W rfl
              rw [ws.1, ← eF] at this
              rw [← e13.1]
              exact this
            · intro z
              unfold faW
              rw [if_neg (by omega), z, ws.2 v hv.1 b1, eX]
          by_cases q6 : F = v ∧ X = kn + 1
          · refine yes (fun P hP => GX1_isGrantDue R v _ _ (ac _ ⟨fun z => (by cases z), fun w z => ?_⟩)) (fun m h => ?_)
            · cases z
              exact ⟨v, rfl, fun _ => ⟨v6, mo _ ⟨⟨by omega, by omega⟩, fun _ => ⟨v6, ce _ ⟨fun z => absurd z q5, fun _ => wF _ ⟨fun z => absurd q6.1 z, fun _ => wX _ ⟨fun z => absurd q6.2 z, fun _ => hP⟩⟩⟩⟩, fun z => absurd z q4⟩⟩, fun z => absurd z q2⟩
            · obtain ⟨w, fa, y1, y2⟩ := rw1 m h
              obtain ⟨d1, d2, d3, d4, d5, d6, d7, d8, d9, d10, d11, d12, d13, d14, d15⟩ := fact m h
              have e13 := d13 (kn + 1) (by omega) (by omega)
              have p77 := d8 (by omega)
              refine ⟨wtS m w F fa, hiE.wt m w F fa, h.wt w F fa, ⟨rfl, rfl, rfl, rfl, wtS_k _ _ _ _ (by decide)⟩, fun hr hM P hP => ?_⟩
              refine GX12_grants hM v (known_run hM v6 _ ?_)
              rw [d4]
              refine ⟨zk, v6, fun z => absurd z (by omega), fun _ => ⟨v6, fun _ => ⟨⟨by omega, by omega⟩, ⟨by omega, by omega⟩, by omega, v6, fun _ => ⟨⟨by omega, by omega⟩, ⟨by omega, by omega⟩, by omega, ⟨by omega, by omega⟩, fun _ => ⟨fun z => absurd (e13.1.trans z) q5, fun _ => y2 hr hM _ ⟨fun z => ?_, fun _ => ⟨fun _ => ⟨v6, v6, v6, hP⟩, fun z => ?_⟩⟩⟩, fun z => absurd z (by omega)⟩, fun z => absurd z (by omega)⟩, fun z => absurd z (by omega)⟩⟩
              · have z' : F ≠ v := z
                exact absurd q6.1 z'
              · have z' : fa ≠ kn + 1 := z
                exact absurd ((y1 q6.1).trans q6.2) z'
          · refine none1 (cNo (fun P hP => GX1_isGrantDue R v _ _ (ac _ ⟨fun z => (by cases z), fun w z => ?_⟩))) (fun m h => ?_)
            · cases z
              exact ⟨v, rfl, fun _ => ⟨v6, mo _ ⟨⟨by omega, by omega⟩, fun _ => ⟨v6, ce _ ⟨fun z => absurd z q5, fun _ => wF _ ⟨fun _ => hP, fun y => wX _ ⟨fun _ => hP, fun z => absurd ⟨y, z⟩ q6⟩⟩⟩⟩, fun z => absurd z q4⟩⟩, fun z => absurd z q2⟩
            · obtain ⟨w, fa, y1, y2⟩ := rw1 m h
              obtain ⟨d1, d2, d3, d4, d5, d6, d7, d8, d9, d10, d11, d12, d13, d14, d15⟩ := fact m h
              have e13 := d13 (kn + 1) (by omega) (by omega)
              refine ⟨wtS m w F fa, hiE.wt m w F fa, fun hr hM P hP => ?_, h.wt w F fa⟩
              refine GX12_grants hM v (known_run hM v6 _ ?_)
              rw [d4]
              have p77 := d8 (by omega)
              refine ⟨zk, v6, fun z => absurd z (by omega), fun _ => ⟨v6, fun _ => ⟨⟨by omega, by omega⟩, ⟨by omega, by omega⟩, by omega, v6, fun _ => ⟨⟨by omega, by omega⟩, ⟨by omega, by omega⟩, by omega, ⟨by omega, by omega⟩, fun _ => ⟨fun z => absurd (e13.1.trans z) q5, fun _ => y2 hr hM _ ⟨fun _ => hP, fun y => ⟨fun z => ?_, fun _ => hP⟩⟩⟩, fun z => absurd z (by omega)⟩, fun z => absurd z (by omega)⟩, fun z => absurd z (by omega)⟩⟩
              have y' : F = v := y
              have z' : fa = kn + 1 := z
              exact absurd ⟨y', (y1 y').symm.trans z'⟩ q6
  · -- no act is left
    refine none1 (fun P u4 u5 hP => GX1_sendGrants_2 R _ v u4 u5 ⟨fun z => absurd z (by omega), fun _ => ⟨v6, ka _ ⟨zk, hasAct_run v6 (by omega) 0 (Or.inr ⟨rfl, by omega⟩) _ ⟨fun _ => ⟨zv, hP _ _⟩, fun z => absurd rfl z⟩⟩⟩⟩) (fun m h => ⟨m, hiE.refl m, fun hr hM P hP => ?_, h⟩)
    obtain ⟨d1, d2, d3, d4, d5, d6, d7, d8, d9, d10, d11, d12, d13, d14, d15⟩ := fact m h
    refine GX12_grants hM v (known_run hM v6 _ ?_)
    rw [d4]
    exact ⟨zk, v6, fun _ => hP, fun _ => ⟨v6, fun z => absurd z (by omega), fun _ => hP⟩⟩
