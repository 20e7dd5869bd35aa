theorem zss (a : Int) : 1 - (1 - a) = a := by omega
/-- the references of a planner that has been used -/
def rqE (r r' : zR) : Prop := RSc r' ∧ (∀ q, q ≠ 19 → r' q = r q) ∧ ∃ jh : Int, (jh = 0 ∨ jh = 1) ∧ r' 19 0 3 = some (23, jh) ∧ r' 19 0 4 = some (23, 1 - jh)
/-- what a search changes in the class -/
def cqE (v : Int) (c c' : zI) : Prop := (∀ q, q ≠ 19 → q ≠ 20 → q ≠ 21 → q ≠ 22 → q ≠ 23 → q ≠ 25 → q ≠ 26 → q ≠ 27 → q ≠ 28 → c' q = c q) ∧ ∀ q j, (q = 25 ∨ q = 26 ∨ q = 27 ∨ q = 28) → j ≠ v → c' q j = c q j
/-- what a search that finds changes in the reference -/
def mqE (v : Int) (m m' : zI) : Prop := (∀ z, z ≠ 51 → z ≠ 52 → z ≠ 53 → z ≠ 54 → z ≠ 55 → z ≠ 56 → z ≠ 57 → z ≠ 58 → m' z = m z) ∧ (∀ u, u ≠ v → m' 52 0 u = m 52 0 u ∧ m' 53 0 u = m 53 0 u ∧ m' 54 0 u = m 54 0 u) ∧ (∀ z, (z < 301 * v ∨ 301 * v + 301 ≤ z) → m' 51 0 z = m 51 0 z ∧ m' 55 0 z = m 55 0 z ∧ m' 56 0 z = m 56 0 z)
theorem find_lock {ln wd vn v a b t0 jm : Int} {k pk tr tb te : Int → Int} {c1 : zI} {r1 : zR} (E : PE c1 r1 jm ln wd vn v a b t0 k pk tr tb te) (hh : ∃ jh : Int, (jh = 0 ∨ jh = 1) ∧ r1 19 0 3 = some (23, jh) ∧ r1 19 0 4 = some (23, 1 - jh)) :
    ∃ (x : Int) (c' : zI) (r' : zR), (x = 0 ∨ x = 1) ∧ rqE r1 r' ∧ cqE v c1 c' ∧
      (∀ P : Int → zI → zR → Prop, P x c' r' → W1v mX4_markGround [.inr (some (19, 0))] c1 r1 (fun (hi2 : zI) => W2i mX4_spread [.inr (some (19, 0))] hi2 r1 (fun (x3 : Int) (hi4 : zI) (hr5 : zR) => RSc hr5 ∧ ((x3 ≠ -1 → (W1v mX4_keepWhatLeadsHome [.inr (some (19, 0)), .inl x3] hi4 hr5 (fun (hi6 : zI) => (0 ≤ v ∧ v < 6) ∧ (W1v mX4_followFirst [.inr (some (19, 0)), .inl x3, .inr (some (25, v))] hi6 hr5 (fun (hi8 : zI) => P 1 hi8 hr5))))) ∧ (x3 = -1 → P 0 hi4 hr5))))) ∧
      (x = 0 → c' 25 = c1 25 ∧ c' 26 = c1 26 ∧ c' 27 = c1 27 ∧ c' 28 = c1 28) ∧
      ∀ m k' pk' tr' tb' te', AG ln wd vn v k pk tr tb te k' pk' tr' tb' te' → ME m ln wd vn v a b t0 k' pk' tr' tb' te' → (∃ r0, RSm r0) → ∃ m', hiE m m' ∧ (∀ hr, RSm hr → R1i mX12_finds [.inr (some (37, 0)), .inl v, .inl a, .inl b, .inl t0] m hr x m') ∧
        ((x = 0 ∧ fdE m m' ∧ ¬ Fnd ln wd vn k' pk' tr' tb' te' v a b t0) ∨ (x = 1 ∧ ∃ N : Nat, N ≤ 300 ∧ mqE v m m' ∧ m' 52 0 v = t0 ∧ m' 53 0 v = t0 + N ∧ PR v t0 (ln * wd) N (3 * pk v + 2) c' m' ∧ m' 51 0 (301 * v) = pk v ∧ c' 25 v 2 = pk v)) := by
  have E0 := E
  obtain ⟨R, hj, r5, r6, ⟨w7, w8, w9, w10, w11, w12, w13⟩, m5, m8, hvn, hv, ht, Y, hk, hu⟩ := E
  have hv6 : 0 ≤ v ∧ v < 6 := by omega
  obtain ⟨c2, a1, a2, a3, a4⟩ := markGround_run E0
  have P2 : plE c1 c2 := fun q x1 x2 x3 x4 => a1 q x2 x3
  obtain ⟨jh, hjh, s3, s4⟩ := hh
  obtain ⟨x3, c3, r3, b1, b2, ⟨E3, ⟨ja, hja, q3, q4⟩, T3, out⟩, b4⟩ := spread_run (E0.keep P2) ⟨1 - jh, by omega, by rw [s3]; congr 2; omega, s4⟩ a2 a3
  have P3 : plE c1 c3 := P2.trans b1
  have RQ : rqE r1 r3 := ⟨E3.1, b2.1, 1 - ja, by rcases hja with z | z <;> rw [z] <;> decide, q3, by rw [q4, zss]⟩
  rcases out with ⟨e3, nf⟩ | ⟨N, e3, N1, N2, hg, hmin, Ls⟩
  · -- none
    refine ⟨0, c3, r3, Or.inl rfl, RQ, ⟨fun q x1 x2 x3 x4 x5 _ _ _ _ => P3 q x2 x3 x4 x5, fun q j hq _ => by rw [P3 q (by omega) (by omega) (by omega) (by omega)]⟩, fun P hP => a4 _ (b4 _ ⟨E3.1, fun z => absurd e3 z, fun _ => hP⟩), fun _ => ⟨P3 25 (by decide) (by decide) (by decide) (by decide), P3 26 (by decide) (by decide) (by decide) (by decide), P3 27 (by decide) (by decide) (by decide) (by decide), P3 28 (by decide) (by decide) (by decide) (by decide)⟩, fun m k' pk' tr' tb' te' A M hr0 => ?_⟩
    obtain ⟨r0, hr0⟩ := hr0
    obtain ⟨m', f1, f2⟩ := finds_run hr0 M
    rcases f2 with ⟨g1, g2⟩ | ⟨N, N1, g, -⟩
    · exact ⟨m', fun q hq => f1 q (by omega) (by omega), g2, Or.inl ⟨rfl, f1, g1⟩⟩
    · exact absurd (A.symm.fnd (A.yd Y) ⟨N, N1, g⟩) nf
  · -- one
    obtain ⟨c4, d1, d2, d3⟩ := keep_run ⟨N1, N2⟩ hg E3 T3 Ls
    have P4 : plE c1 c4 := P3.trans (plE.of1 d1 (by decide))
    have E4 := E0.keep P4
    have F4 : FE c4 r3 jm ln wd v a b k pk := (E3.keep (plE.of1 d1 (by decide))).fe
    have e13 : c4 19 0 13 = pk v := by rw [P4 19 (by decide) (by decide) (by decide) (by decide)]; exact w13
    have e10 : c4 19 0 10 = t0 := by rw [P4 19 (by decide) (by decide) (by decide) (by decide)]; exact w10
    obtain ⟨bg3, bg4, bg5, bg6, bg7, bg8, bg0⟩ := cBg_25 c4 v (pk v) t0
    have F5 : FE (cBg c4 v (pk v) t0) r3 jm ln wd v a b k pk := F4.keep (fun q x1 x2 x3 x4 => cBg_k _ _ _ _ x1 x2)
    obtain ⟨c5, k1, k2, k3⟩ := fol_from (3 * pk v + 2) N2 hg hv6 ht N 0 (3 * pk v) (cBg c4 v (pk v) t0) (by omega) F5 bg4 bg5 ⟨by omega, by omega⟩ (fun j hj => by
      have := d2 j hj
      unfold LyI at this ⊢
      rw [cBg_k _ _ _ _ (by decide) (by decide)]
      exact this) (by rw [Nat.sub_zero]; exact ldn_start hg)
    refine ⟨1, c5, r3, Or.inr rfl, RQ, ⟨fun q x1 x2 x3 x4 x5 x6 x7 x8 x9 => ?_, fun q j hq hne => ?_⟩, fun P hP => a4 _ (b4 _ ⟨E3.1, fun _ => ?_, fun z => absurd z (by omega)⟩), fun z => absurd z (by decide), fun m k' pk' tr' tb' te' A M hr0 => ?_⟩
    · rw [k1.1 q x6 x7 x8 x9, cBg_k _ _ _ _ x6 x7]
      exact P4 q x2 x3 x4 x5
    · rw [k1.2.1 q j hne, cBg_j _ _ _ _ hne, P4 q (by omega) (by omega) (by omega) (by omega)]
    · rw [e3]
      refine d3 _ ⟨hv6, GX4_followFirst _ v hv6 ?_⟩
      rw [e13, e10]
      refine GX6_begin E3.1 v (pk v) t0 hv6 ?_
      have g := k2 (fun hi8 => P 1 hi8 r3) none none hP
      have q1 : 3 * pk v / 3 = pk v := by omega
      have q2 : 3 * pk v % 3 = 0 := by omega
      rw [q1, q2] at g
      have e13' : cBg c4 v (pk v) t0 19 0 13 = pk v := by rw [cBg_k _ _ _ _ (by decide) (by decide)]; exact e13
      show WP mX4_followFirst 23 [some (.inr (some (19, 0))), some (.inl (N : Int)), some (.inr (some (25, v))), some (.inl (cBg c4 v (pk v) t0 19 0 13)), some (.inl 0), some (.inl 1), none, none] [] (cBg c4 v (pk v) t0) r3 _
      rw [e13']
      exact g
    · obtain ⟨r0, hr0⟩ := hr0
      obtain ⟨m', f1, f2⟩ := finds_run hr0 M
      rcases f2 with ⟨g1, g2⟩ | ⟨N', N1', g, gmin, gL, gw⟩
      · exact absurd (A.fnd Y ⟨N, N2, hg⟩) g1
      · have epk : pk' v = pk v := A.2.1.symm
        have eN : N' = N := by
          rw [epk] at g gmin
          rcases Nat.lt_trichotomy N' N with z | z | z
          · exact absurd (A.symm.rch (A.yd Y) _ _ g) (hmin N' z)
          · exact z
          · exact absurd (A.rch Y _ _ hg) (gmin N z)
        subst eN
        obtain ⟨m1, em1⟩ : ∃ m1, m1 = zup (zup (zup (zup m' 52 0 v t0) 53 0 v (t0 + N')) 54 0 v 0) 51 0 (301 * v) (pk' v) := ⟨_, rfl⟩
        have n52 : ∀ u, m1 52 0 u = if u = v then t0 else m' 52 0 u := fun u => by rw [em1, zup_kf _ _ _ _ (by decide), zup_kf _ _ _ _ (by decide), zup_kf _ _ _ _ (by decide), zup_at]
        have n53 : ∀ u, m1 53 0 u = if u = v then t0 + N' else m' 53 0 u := fun u => by rw [em1, zup_kf _ _ _ _ (by decide), zup_kf _ _ _ _ (by decide), zup_at, zup_kf _ _ _ _ (by decide)]
        have n54 : ∀ u, m1 54 0 u = if u = v then 0 else m' 54 0 u := fun u => by rw [em1, zup_kf _ _ _ _ (by decide), zup_at, zup_kf _ _ _ _ (by decide), zup_kf _ _ _ _ (by decide)]
        have n51 : ∀ z, m1 51 0 z = if z = 301 * v then pk' v else m' 51 0 z := fun z => by rw [em1, zup_at, zup_kf _ _ _ _ (by decide), zup_kf _ _ _ _ (by decide), zup_kf _ _ _ _ (by decide)]
        have nk : ∀ z, z ≠ 51 → z ≠ 52 → z ≠ 53 → z ≠ 54 → m1 z = m' z := fun z x1 x2 x3 x4 => by rw [em1, zup_kf _ _ _ _ x1, zup_kf _ _ _ _ x4, zup_kf _ _ _ _ x3, zup_kf _ _ _ _ x2]
        have F1 : MF v m' m1 := ⟨fun z x1 x2 x3 x4 x5 x6 => nk z x1 x2 x3 x4, fun u hu => ⟨by rw [n52, if_neg hu], by rw [n53, if_neg hu], by rw [n54, if_neg hu]⟩, fun z hz => ⟨by rw [n51, if_neg (by omega)], by rw [nk 55 (by decide) (by decide) (by decide) (by decide)], by rw [nk 56 (by decide) (by decide) (by decide) (by decide)]⟩⟩
        have v54 : m1 54 0 v = 0 := by rw [n54, if_pos rfl]
        have pr0 : PR v t0 (ln * wd) ((0 : Nat) : Int) (3 * pk v) (cBg c4 v (pk v) t0) m1 := by
          have hp := Y.2.2.2.2.2
          unfold PR
          rw [v54, bg4, bg5, bg6, bg7, bg8]
          refine ⟨rfl, rfl, rfl, by omega, by omega, fun j j0 j1 => by omega, fun j j' j0 j1 j2 => by omega, Or.inl ⟨by omega, rfl, rfl⟩, fun j j0 j1 => ?_, ?_⟩
          · have : j = 0 := by omega
            subst this
            rw [bg0, n51, if_pos (by omega), epk]
            exact ⟨rfl, hp.1, hp.2.1⟩
          · have e0 : ((0 : Nat) : Int) = 0 := rfl
            rw [e0, bg0]
            omega
        obtain ⟨m2, y1, y2, y3, y4, y5, y6⟩ := k3 m' m1 k' pk' tr' tb' te' A (M.keep f1) F1 (by rw [n52, if_pos rfl]) (by rw [n53, if_pos rfl]) gL pr0
        refine ⟨m2, fun q hq => (y1.1 q (by omega) (by omega) (by omega) (by omega) (by omega) (by omega)).trans (f1 q (by omega) (by omega)), fun hr hM P hP => gw hr hM P (fun u9 u10 => ?_), Or.inr ⟨rfl, N', N2, ⟨fun z x1 x2 x3 x4 x5 x6 x7 x8 => (y1.1 z x1 x2 x3 x4 x5 x6).trans (f1 z x7 x8), fun u hu => ?_, fun z hz => ?_⟩, y2, y3, y4, ?_, ?_⟩⟩
        · rw [← em1]
          have := y6 hr hM P hP u9 u10 none
          rw [← epk] at this
          exact this
        · rw [(y1.2.1 u hu).1, (y1.2.1 u hu).2.1, (y1.2.1 u hu).2.2, f1 52 (by decide) (by decide), f1 53 (by decide) (by decide), f1 54 (by decide) (by decide)]
          exact ⟨rfl, rfl, rfl⟩
        · rw [(y1.2.2 z hz).1, (y1.2.2 z hz).2.1, (y1.2.2 z hz).2.2, f1 51 (by decide) (by decide), f1 55 (by decide) (by decide), f1 56 (by decide) (by decide)]
          exact ⟨rfl, rfl, rfl⟩
        · rw [y5, n51, if_pos rfl, epk]
        · rw [k1.2.2]; exact bg3
theorem find_run {f a s l e : Int} {c m0 : zI} {r : zR} (h0 : Rl f a s l e c r m0) {v jm A B : Int} (rj : r 1 0 6 = some (30, jm)) (hv : 0 ≤ v ∧ v < m0 37 0 10) (hA : Yd (m0 37 0 5) (m0 37 0 6) (m0 39 0) A B (m0 42 0 v)) :
    ∃ (x : Int) (c' : zI) (r' : zR), (x = 0 ∨ x = 1) ∧ rqE r r' ∧ cqE v c c' ∧ R2i mX4_findTrip [.inr (some (19, 0)), .inr (some (30, jm)), .inr (some (18, 0)), .inl v, .inl A, .inl B, .inl (m0 37 0 61)] c r x c' r' ∧
      (x = 0 → c' 25 = c 25 ∧ c' 26 = c 26 ∧ c' 27 = c 27 ∧ c' 28 = c 28) ∧
      ∀ m, Rl f a s l e c r m → ME m (m0 37 0 5) (m0 37 0 6) (m0 37 0 10) v A B (m0 37 0 61) (m 39 0) (m 42 0) (m 51 0) (m 52 0) (m 53 0) → ∃ m', hiE m m' ∧ (∀ hr, RSm hr → R1i mX12_finds [.inr (some (37, 0)), .inl v, .inl A, .inl B, .inl (m0 37 0 61)] m hr x m') ∧
        ((x = 0 ∧ fdE m m' ∧ ¬ Fnd (m0 37 0 5) (m0 37 0 6) (m0 37 0 10) (m 39 0) (m 42 0) (m 51 0) (m 52 0) (m 53 0) v A B (m0 37 0 61)) ∨ (x = 1 ∧ ∃ N : Nat, N ≤ 300 ∧ mqE v m m' ∧ m' 52 0 v = m0 37 0 61 ∧ m' 53 0 v = m0 37 0 61 + N ∧ PR v (m0 37 0 61) (m0 37 0 5 * m0 37 0 6) N (3 * m0 42 0 v + 2) c' m' ∧ m' 51 0 (301 * v) = m0 42 0 v ∧ c' 25 v 2 = m0 42 0 v)) := by
  have E := h0.pe rj hv hA
  have R := h0.1
  have fact : ∃ jh : Int, (jh = 0 ∨ jh = 1) ∧ r 19 0 3 = some (23, jh) ∧ r 19 0 4 = some (23, 1 - jh) := h0.2.2.1
  obtain ⟨x, c', r', x1, x2, x3, x4, x5, x6⟩ := find_lock E fact
  have same := fun m (h : Rl f a s l e c r m) => h0.same h
  have hM := h0.2.1
  refine ⟨x, c', r', x1, ⟨x2.1, fun q hq => ?_, x2.2.2⟩, ⟨fun q a1 a2 a3 a4 a5 a6 a7 a8 a9 => ?_, fun q j hq hne => ?_⟩, fun P hP => ?_, fun z => ?_, fun m h M => x6 m _ _ _ _ _ ((same m h).2.1 v hv.1 hv.2) M ⟨r, hM⟩⟩
  · rw [x2.2.1 q hq, zupR_kf _ _ _ _ hq, zupR_kf _ _ _ _ hq]
  · rw [x3.1 q a1 a2 a3 a4 a5 a6 a7 a8 a9, cFt_k _ _ _ _ _ _ _ _ a1]
  · rw [x3.2 q j hq hne, cFt_k _ _ _ _ _ _ _ _ (by omega)]
  · obtain ⟨h1, h2, h3, h4, h5, h6, h7, h8, h9, h10, h11, h12, h13, h14⟩ := h0
    obtain ⟨jm', j1, j2, j3, p1, p2, p3, p4, p5, p6, p7, p8, p9, p10, p11, p12, p13, p14, p15, p16⟩ := h8
    have ej : jm' = jm := by
      rw [j2] at rj
      injection rj with rj
      injection rj with _ rj
    subst ej
    have pv := p15 v hv.1 hv.2
    have e5 : 0 ≤ c 30 jm' 5 := by
      rw [p1]; exact Int.mul_nonneg (by omega) (by omega)
    have el : (if c 30 jm' 5 / c 30 jm' 6 < 16 then c 30 jm' 5 / c 30 jm' 6 else 16) = m0 37 0 5 := by
      rw [p1, p2, Int.mul_ediv_cancel _ (by omega)]
      split <;> omega
    refine GX4_findTrip R jm' v A B (m0 37 0 61) (by omega) ⟨fun z => absurd z (by omega), fun _ => ⟨fun z => absurd z (by omega), fun _ => ⟨fun _ => ⟨⟨e5, by omega⟩, ?_⟩, fun z => absurd z (by omega)⟩⟩⟩
    refine GX10_parkingCell (hR := E.1) jm' v (by omega) ⟨fun z => absurd z (by omega), fun _ => ⟨fun z => ?_, fun _ => ⟨fun z => absurd z (by omega), fun _ => ⟨by omega, ?_⟩⟩⟩⟩
    · exfalso
      have : c 30 jm' 8 ≤ v := z
      omega
    · have g := x4 P hP
      rw [el]
      have e35 : (zup (zup (zup (zup (zup (zup c 19 0 7 (c 30 jm' 6)) 19 0 8 (m0 37 0 5)) 19 0 9 v) 19 0 10 (m0 37 0 61)) 19 0 11 A) 19 0 12 B) 35 jm' v = m0 42 0 v := pv.1
      rw [e35, p2]
      exact g
  · have := x5 z
    rw [cFt_k _ _ _ _ _ _ _ _ (show (25 : Nat) ≠ 19 by decide), cFt_k _ _ _ _ _ _ _ _ (show (26 : Nat) ≠ 19 by decide), cFt_k _ _ _ _ _ _ _ _ (show (27 : Nat) ≠ 19 by decide), cFt_k _ _ _ _ _ _ _ _ (show (28 : Nat) ≠ 19 by decide)] at this
    exact this
