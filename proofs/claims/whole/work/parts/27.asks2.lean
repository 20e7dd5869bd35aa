section ZS
variable {hi : zI} {hr : zR}
theorem accountAt_run (hR : RSc hr) {l : Int} (hv : hi 17 0 2 ≤ 6) (x : Option (Nat × Int)) (h : (0 ≤ l ∧ l < hi 17 0 2 ∧ x = some (24, l)) ∨ (¬ (0 ≤ l ∧ l < hi 17 0 2) ∧ x = none)) : R0r mX1_accountAt [.inr (some (17, 0)), .inl l] hi hr x := by
  intro P hP
  refine GX1_accountAt hR l ?_
  rcases h with ⟨h1, h2, rfl⟩ | ⟨h1, rfl⟩
  · (repeat' first | with_reducible apply And.intro | with_reducible intro _) <;> first | omega | exact hP | (exfalso; omega)
  · (repeat' first | with_reducible apply And.intro | with_reducible intro _) <;> first | omega | exact hP | (exfalso; omega)
theorem vehicleAt_run (hR : RSc hr) {j l : Int} (hj : 0 ≤ j ∧ j < 2) (e : hr 1 0 6 = some (30, j)) (hv : hi 30 j 8 ≤ 6) (x : Option (Nat × Int)) (h : (0 ≤ l ∧ l < hi 30 j 8 ∧ x = some (36, l)) ∨ (¬ (0 ≤ l ∧ l < hi 30 j 8) ∧ x = none)) : R0r mX11_vehicleAt [.inr (some (1, 0)), .inl l] hi hr x := by
  intro P hP
  refine GX11_vehicleAt hR l ?_
  rcases h with ⟨h1, h2, rfl⟩ | ⟨h1, rfl⟩
  · refine ⟨fun q => absurd q (by omega), fun _ => ⟨j, e, hj, ?_⟩⟩
    (repeat' first | with_reducible apply And.intro | with_reducible intro _) <;> first | omega | exact hP | (exfalso; omega)
  · refine ⟨fun _ => hP, fun _ => ⟨j, e, hj, ?_⟩⟩
    (repeat' first | with_reducible apply And.intro | with_reducible intro _) <;> first | omega | exact hP | (exfalso; omega)
theorem hasAct_run {j l : Int} (hj : 0 ≤ j ∧ j < 6) (ha : hi 25 j 5 ≤ 300) (x : Int) (h : (x = 1 ∧ 1 ≤ l ∧ l ≤ hi 25 j 5) ∨ (x = 0 ∧ ¬ (1 ≤ l ∧ l ≤ hi 25 j 5))) : R0i mX6_hasAct [.inr (some (25, j)), .inl l] hi hr x := by
  intro P hP
  refine GX6_hasAct j l hj ?_
  rcases h with ⟨rfl, h1⟩ | ⟨rfl, h1⟩
  · (repeat' first | with_reducible apply And.intro | with_reducible intro _) <;> first | omega | exact hP | (exfalso; omega)
  · (repeat' first | with_reducible apply And.intro | with_reducible intro _) <;> first | omega | exact hP | (exfalso; omega)
theorem momentOfAct_run (hR : RSc hr) {j l : Int} (hj : 0 ≤ j ∧ j < 6) (ha : hi 25 j 5 ≤ 300) (x : Int) (h : (x = hi 28 j l ∧ 1 ≤ l ∧ l ≤ hi 25 j 5) ∨ (x = -1 ∧ ¬ (1 ≤ l ∧ l ≤ hi 25 j 5))) : R0i mX6_momentOfAct [.inr (some (25, j)), .inl l] hi hr x := by
  intro P hP
  refine GX6_momentOfAct hR j l hj ?_
  rcases h with ⟨rfl, h1⟩ | ⟨rfl, h1⟩
  · exact hasAct_run hj ha 1 (by omega) _ ⟨fun q => absurd q (by decide), fun _ => ⟨by omega, hP⟩⟩
  · exact hasAct_run hj ha 0 (by omega) _ ⟨fun _ => hP, fun q => absurd rfl q⟩
/-- the place of a trip: the class's and the reference's word for it -/
theorem cellAt_run (hR : RSc hr) {j t : Int} (hj : 0 ≤ j ∧ j < 6) (h0 : 0 ≤ hi 25 j 3 ∧ hi 25 j 3 ≤ 600) (h1 : hi 25 j 4 ≤ 300) (ht : 0 ≤ t) (ht2 : zInR t) (x : Int) (h : (x = hi 26 j (t - hi 25 j 3) ∧ 0 < t - hi 25 j 3 ∧ t - hi 25 j 3 < hi 25 j 4) ∨ (x = hi 25 j 2 ∧ ¬ (0 < t - hi 25 j 3 ∧ t - hi 25 j 3 < hi 25 j 4))) : R0i mX6_cellAt [.inr (some (25, j)), .inl t] hi hr x := by
  intro P hP
  refine GX6_cellAt hR j t hj ?_
  obtain ⟨k1, k2⟩ := ht2
  rcases h with ⟨rfl, h1⟩ | ⟨rfl, h1⟩
  · (repeat' first | with_reducible apply And.intro | with_reducible intro _) <;> first | omega | exact hP | (exfalso; omega)
  · (repeat' first | with_reducible apply And.intro | with_reducible intro _) <;> first | omega | exact hP | (exfalso; omega)
theorem cellOfAct_run (hR : RSc hr) {j l : Int} (hj : 0 ≤ j ∧ j < 6) (hn : rtOK (hi 25) (hi 28) j) (x : Int) (h : (x = aC (hi 25) (hi 26) (hi 28) j l ∧ 1 ≤ l ∧ l ≤ hi 25 j 5) ∨ (x = -1 ∧ ¬ (1 ≤ l ∧ l ≤ hi 25 j 5))) : R0i mX6_cellOfAct [.inr (some (25, j)), .inl l] hi hr x := by
  intro P hP
  have ha := hn.2.2.1
  refine GX6_cellOfAct hR j l hj ?_
  rcases h with ⟨rfl, h1⟩ | ⟨rfl, h1⟩
  · refine hasAct_run hj ha 1 (by omega) _ ⟨fun q => absurd q (by decide), fun _ => ?_⟩
    unfold aC at hP
    by_cases q : l = hi 25 j 6 ∨ l = hi 25 j 7
    · rw [if_pos q] at hP
      exact ⟨fun _ => hP, fun q1 => ⟨fun _ => hP, fun q2 => absurd q (by omega)⟩⟩
    · rw [if_neg q] at hP
      have hm := hn.2.2.2 l h1.1 h1.2
      refine ⟨fun z => absurd (Or.inl z) q, fun _ => ⟨fun z => absurd (Or.inr z) q, fun _ => ⟨by omega, ?_⟩⟩⟩
      refine cellAt_run hR hj hn.1 hn.2.1 hm.1 ⟨by omega, by omega⟩ _ ?_ _ hP
      by_cases q : 0 < hi 28 j l - hi 25 j 3 ∧ hi 28 j l - hi 25 j 3 < hi 25 j 4
      · rw [if_pos q]; exact Or.inl ⟨rfl, q⟩
      · rw [if_neg q]; exact Or.inr ⟨rfl, q⟩
  · exact hasAct_run hj ha 0 (by omega) _ ⟨fun _ => hP, fun q => absurd rfl q⟩
theorem tripAt_run (hM : RSm hr) {v t : Int} (hv : 0 ≤ v ∧ v < 6) (ht : 0 ≤ t) (h : hi 53 0 v = -1 ∨ (0 ≤ hi 52 0 v ∧ hi 52 0 v ≤ 600 ∧ hi 52 0 v ≤ hi 53 0 v ∧ hi 53 0 v ≤ hi 52 0 v + 300)) : R0i mX12_tripAt [.inr (some (37, 0)), .inl v, .inl t] hi hr (tAt (hi 42 0) (hi 51 0) (hi 52 0) (hi 53 0) v t) := by
  intro P hP
  refine GX12_tripAt hM v t ?_
  unfold tAt at hP
  by_cases hc : hi 53 0 v = -1 ∨ t < hi 52 0 v ∨ hi 53 0 v ≤ t
  · rw [if_pos hc] at hP
    (repeat' first | with_reducible apply And.intro | with_reducible intro _) <;> first | omega | exact hP | (exfalso; omega)
  · rw [if_neg hc] at hP
    (repeat' first | with_reducible apply And.intro | with_reducible intro _) <;> first | omega | exact hP | (exfalso; omega)
/-- the two words for a trip's place agree -/
theorem RlR.at {c25 c26 c27 c28 : Int → Int → Int} {vn tk cn : Int} {m42 m51 m52 m53 m54 m55 m56 m77 : Int → Int} (h : RlR c25 c26 c27 c28 vn tk cn m42 m51 m52 m53 m54 m55 m56 m77) {v t : Int} (v0 : 0 ≤ v) (v1 : v < vn) :
    (tAt m42 m51 m52 m53 v t = c26 v (t - c25 v 3) ∧ 0 < t - c25 v 3 ∧ t - c25 v 3 < c25 v 4) ∨ (tAt m42 m51 m52 m53 v t = c25 v 2 ∧ ¬ (0 < t - c25 v 3 ∧ t - c25 v 3 < c25 v 4)) := by
  obtain ⟨h1, h2, h3, h4, h5, h6, h7, h8, h9⟩ := h v v0 v1
  unfold tAt
  rcases h9 with ⟨a1, a2, a3, a4, a5⟩ | ⟨a1, a2, a3, a4, a5, a6, a7, a8, a9, a10, a11, a12⟩
  · exact Or.inr ⟨by rw [if_pos (Or.inl a2), h1], by omega⟩
  · by_cases hc : 0 < t - c25 v 3 ∧ t - c25 v 3 < c25 v 4
    · refine Or.inl ⟨?_, hc⟩
      rw [if_neg (by omega), (a12 (t - c25 v 3) (by omega) (by omega)).1]
      congr 1
      omega
    · refine Or.inr ⟨?_, hc⟩
      by_cases hd : m53 v = -1 ∨ t < m52 v ∨ m53 v ≤ t
      · rw [if_pos hd, h1]
      · rw [if_neg hd, show 301 * v + t - m52 v = 301 * v by omega, a11, h1]
theorem RlR.end {c25 c26 c27 c28 : Int → Int → Int} {vn tk cn : Int} {m42 m51 m52 m53 m54 m55 m56 m77 : Int → Int} (h : RlR c25 c26 c27 c28 vn tk cn m42 m51 m52 m53 m54 m55 m56 m77) (htk : tk ≤ 600) {v : Int} (v0 : 0 ≤ v) (v1 : v < vn) :
    (m53 v = -1 ∨ (0 ≤ m52 v ∧ m52 v ≤ 600 ∧ m52 v ≤ m53 v ∧ m53 v ≤ m52 v + 300)) ∧ (0 ≤ c25 v 3 ∧ c25 v 3 ≤ 600) ∧ 0 ≤ c25 v 4 ∧ c25 v 4 ≤ 300 ∧ c25 v 5 ≤ 300 := by
  obtain ⟨h1, h2, h3, h4, h5, h6, h7, h8, h9⟩ := h v v0 v1
  rcases h9 with ⟨a1, a2, a3, a4, a5⟩ | ⟨a1, a2, a3, a4, a5, a6, a7, a8, a9, a10, a11, a12⟩ <;> omega
theorem RlR.rt {c25 c26 c27 c28 : Int → Int → Int} {vn tk cn : Int} {m42 m51 m52 m53 m54 m55 m56 m77 : Int → Int} (h : RlR c25 c26 c27 c28 vn tk cn m42 m51 m52 m53 m54 m55 m56 m77) (htk : tk ≤ 600) {v : Int} (v0 : 0 ≤ v) (v1 : v < vn) : rtOK c25 c28 v := by
  obtain ⟨g2, g3, g4, g5, g6⟩ := h.end htk v0 v1
  obtain ⟨h1, h2, h3, h4, h5, h6, h7, h8, h9⟩ := h v v0 v1
  refine ⟨g3, g5, g6, fun i i0 i1 => ?_⟩
  have := h7 i i0 (by omega)
  omega
theorem sim_trip (h : RLb hi hr hi) {l t : Int} (ht : zInR t) : SimI mX11_trip mX12_trip [.inl l, .inl t] hi hr := by
  have hR := h.1
  have hM := h.2.1
  obtain ⟨s1, s2, s3, s4, s5, s6, s7, s8, s9, s10, s11, s12, s13⟩ := h.2.2.2.1
  obtain ⟨jm, e1, e2, e3, p1, p2, p3, p4, p5, p6, p7, p8, p9, p10, p11, p12, p13, p14, p15, p16⟩ := h.2.2.2.2.2.2.2.1
  have hr2 := h.2.2.2.2.2.2.2.2.2.2.1
  refine SimI.ex0 h ?_
  by_cases hl : 0 ≤ l ∧ l < hi 37 0 10
  · by_cases h0 : 0 ≤ t
    · have g1 := hr2.at (t := t) hl.1 hl.2
      obtain ⟨g2, g3, g4, g5, g6⟩ := hr2.end s3 hl.1 hl.2
      refine ⟨_, fun P hP => GX11_trip hR l t (accountAt_run hR (by omega) _ (Or.inl ⟨hl.1, by omega, rfl⟩) _ ⟨fun q => (by cases q), fun w q => ⟨l, (by cases q; rfl), fun _ => ⟨by omega, cellAt_run hR (by omega) g3 g5 h0 ht _ g1 _ hP⟩, fun q => absurd q (by omega)⟩⟩), fun P hP => GX12_trip l t ⟨fun q => absurd q (by omega), fun _ => ⟨fun q => absurd q (by omega), fun _ => ⟨fun _ => tripAt_run hM (by omega) h0 g2 _ hP, fun q => absurd q (by omega)⟩⟩⟩⟩
    · refine ⟨-1, fun P hP => GX11_trip hR l t (accountAt_run hR (by omega) _ (Or.inl ⟨hl.1, by omega, rfl⟩) _ ⟨fun q => (by cases q), fun w q => ⟨l, (by cases q; rfl), fun q => absurd q (by omega), fun _ => hP⟩⟩), fun P hP => GX12_trip l t ⟨fun q => absurd q (by omega), fun _ => ⟨fun q => absurd q (by omega), fun _ => ⟨fun q => absurd q (by omega), fun _ => hP⟩⟩⟩⟩
  · refine ⟨-1, fun P hP => GX11_trip hR l t (accountAt_run hR (by omega) _ (Or.inr ⟨by omega, rfl⟩) _ ⟨fun _ => hP, fun w q => by cases q⟩), fun P hP => GX12_trip l t ⟨fun _ => hP, fun _ => ⟨fun _ => hP, fun q => absurd q (by omega)⟩⟩⟩

theorem coming_loop (hR : RSc hr) {pi : Int → Int} (hp : ∀ i, 0 ≤ i → i < 64 → hr 9 0 i = some (10, pi i) ∧ 0 ≤ pi i ∧ pi i < 64) (hs : hi 7 0 3 ≤ 60) (hb : ∀ i, 0 ≤ i → i < hi 7 0 3 → hi 10 (pi i) 6 = 1 ∨ hi 10 (pi i) 6 = 2) : ∀ (n a : Nat) , (a : Int) + n = hi 7 0 3 → 0 ≤ smI (fun i => hi 10 (pi i) 6) a → smI (fun i => hi 10 (pi i) 6) a ≤ 2 * a →
    ∀ P : Int → Prop, P (smI (fun i => hi 10 (pi i) 6) (hi 7 0 3).toNat) → WP mX5_comingsOnTheWay 4 [some (.inr (some (7, 0))), some (.inl (smI (fun i => hi 10 (pi i) 6) a)), some (.inl (a : Int))] [] hi hr (zQ0i hi hr P) := by
  intro n
  induction n with
  | zero =>
    intro a ha h0 h1 P hP
    refine GX5_comingsOnTheWay_4 hR _ _ ⟨fun _ => ?_, fun q => absurd q (by omega)⟩
    rw [show (hi 7 0 3).toNat = a by omega] at hP
    exact hP
  | succ n ih =>
    intro a ha h0 h1 P hP
    have hp1 := hp a (by omega) (by omega)
    have hb1 := hb a (by omega) (by omega)
    have e : smI (fun i => hi 10 (pi i) 6) a + hi 10 (pi a) 6 = smI (fun i => hi 10 (pi i) 6) (a + 1) := rfl
    refine GX5_comingsOnTheWay_4 hR _ _ ⟨fun q => absurd q (by omega), fun _ => ⟨fun q => absurd q (by omega), fun _ => ⟨⟨by omega, by omega⟩, pi a, hp1.1, hp1.2, ⟨by omega, by omega⟩, ⟨by omega, by omega⟩, ?_⟩⟩⟩
    have := ih (a + 1) (by omega) (by omega) (by omega) P hP
    rw [e]
    exact this

theorem sim_count (h : RLb hi hr hi) (l : Int) : SimI mX11_count mX12_count [.inl l] hi hr := by
  have hR := h.1
  have hM := h.2.1
  obtain ⟨s1, s2, s3, s4, s5, s6, s7, s8, s9, s10, s11, s12, s13⟩ := h.2.2.2.1
  obtain ⟨t1, t2, t3, t4, t5, t6, t7, t8, t9⟩ := h.2.2.2.2.2.2.1
  obtain ⟨jm, e1, e2, e3, p1, p2, p3, p4, p5, p6, p7, p8, p9, p10, p11, p12, p13, p14, p15, p16⟩ := h.2.2.2.2.2.2.2.1
  have hj : 0 ≤ jm ∧ jm < 2 := by omega
  have hT := h.2.2.2.2.1.1
  have hmul : 0 ≤ hi 37 0 5 * hi 37 0 6 ∧ hi 37 0 5 * hi 37 0 6 ≤ 256 := ⟨Int.mul_nonneg (by omega) (by omega), by
    have h1 : hi 37 0 5 * hi 37 0 6 ≤ 16 * hi 37 0 6 := Int.mul_le_mul_of_nonneg_right p6 (by omega)
    omega⟩
  refine SimI.ex0 h ?_
  rcases (show (l < 0 ∨ 12 < l) ∨ l = 0 ∨ l = 1 ∨ l = 2 ∨ l = 3 ∨ l = 4 ∨ l = 5 ∨ l = 6 ∨ l = 7 ∨ l = 8 ∨ l = 9 ∨ l = 10 ∨ l = 11 ∨ l = 12 by omega) with q0 | q0 | q0 | q0 | q0 | q0 | q0 | q0 | q0 | q0 | q0 | q0 | q0 | q0
  · exact ⟨-1, fun P hP => GX11_count hR l ⟨fun _ => hP, fun q => absurd q (by omega), fun q => absurd q (by omega), fun q => absurd q (by omega), fun q => absurd q (by omega), fun q => absurd q (by omega), fun q => absurd q (by omega), fun q => absurd q (by omega), fun q => absurd q (by omega), fun q => absurd q (by omega), fun q => absurd q (by omega), fun q => absurd q (by omega), fun q => absurd q (by omega), fun q => absurd q (by omega)⟩, fun P hP => GX12_count l ⟨fun _ => hP, fun q => absurd q (by omega), fun q => absurd q (by omega), fun q => absurd q (by omega), fun q => absurd q (by omega), fun q => absurd q (by omega), fun q => absurd q (by omega), fun q => absurd q (by omega), fun q => absurd q (by omega), fun q => absurd q (by omega), fun q => absurd q (by omega), fun q => absurd q (by omega), fun q => absurd q (by omega), fun q => absurd q (by omega)⟩⟩
  · exact ⟨hi 30 jm 5, fun P hP => GX11_count hR l ⟨fun q => absurd q (by omega), fun _ => ⟨jm, e2, hj, hP⟩, fun q => absurd q (by omega), fun q => absurd q (by omega), fun q => absurd q (by omega), fun q => absurd q (by omega), fun q => absurd q (by omega), fun q => absurd q (by omega), fun q => absurd q (by omega), fun q => absurd q (by omega), fun q => absurd q (by omega), fun q => absurd q (by omega), fun q => absurd q (by omega), fun q => absurd q (by omega)⟩, fun P hP => GX12_count l ⟨fun q => absurd q (by omega), fun _ => ⟨⟨by omega, by omega⟩, by rw [← p1]; exact hP⟩, fun q => absurd q (by omega), fun q => absurd q (by omega), fun q => absurd q (by omega), fun q => absurd q (by omega), fun q => absurd q (by omega), fun q => absurd q (by omega), fun q => absurd q (by omega), fun q => absurd q (by omega), fun q => absurd q (by omega), fun q => absurd q (by omega), fun q => absurd q (by omega), fun q => absurd q (by omega)⟩⟩
  · exact ⟨hi 30 jm 6, fun P hP => GX11_count hR l ⟨fun q => absurd q (by omega), fun q => absurd q (by omega), fun _ => ⟨jm, e2, hj, hP⟩, fun q => absurd q (by omega), fun q => absurd q (by omega), fun q => absurd q (by omega), fun q => absurd q (by omega), fun q => absurd q (by omega), fun q => absurd q (by omega), fun q => absurd q (by omega), fun q => absurd q (by omega), fun q => absurd q (by omega), fun q => absurd q (by omega), fun q => absurd q (by omega)⟩, fun P hP => GX12_count l ⟨fun q => absurd q (by omega), fun q => absurd q (by omega), fun _ => by rw [← p2]; exact hP, fun q => absurd q (by omega), fun q => absurd q (by omega), fun q => absurd q (by omega), fun q => absurd q (by omega), fun q => absurd q (by omega), fun q => absurd q (by omega), fun q => absurd q (by omega), fun q => absurd q (by omega), fun q => absurd q (by omega), fun q => absurd q (by omega), fun q => absurd q (by omega)⟩⟩
  · exact ⟨hi 30 jm 8, fun P hP => GX11_count hR l ⟨fun q => absurd q (by omega), fun q => absurd q (by omega), fun q => absurd q (by omega), fun _ => ⟨jm, e2, hj, hP⟩, fun q => absurd q (by omega), fun q => absurd q (by omega), fun q => absurd q (by omega), fun q => absurd q (by omega), fun q => absurd q (by omega), fun q => absurd q (by omega), fun q => absurd q (by omega), fun q => absurd q (by omega), fun q => absurd q (by omega), fun q => absurd q (by omega)⟩, fun P hP => GX12_count l ⟨fun q => absurd q (by omega), fun q => absurd q (by omega), fun q => absurd q (by omega), fun _ => by rw [← p4]; exact hP, fun q => absurd q (by omega), fun q => absurd q (by omega), fun q => absurd q (by omega), fun q => absurd q (by omega), fun q => absurd q (by omega), fun q => absurd q (by omega), fun q => absurd q (by omega), fun q => absurd q (by omega), fun q => absurd q (by omega), fun q => absurd q (by omega)⟩⟩
  · exact ⟨hi 30 jm 7, fun P hP => GX11_count hR l ⟨fun q => absurd q (by omega), fun q => absurd q (by omega), fun q => absurd q (by omega), fun q => absurd q (by omega), fun _ => ⟨jm, e2, hj, hP⟩, fun q => absurd q (by omega), fun q => absurd q (by omega), fun q => absurd q (by omega), fun q => absurd q (by omega), fun q => absurd q (by omega), fun q => absurd q (by omega), fun q => absurd q (by omega), fun q => absurd q (by omega), fun q => absurd q (by omega)⟩, fun P hP => GX12_count l ⟨fun q => absurd q (by omega), fun q => absurd q (by omega), fun q => absurd q (by omega), fun q => absurd q (by omega), fun _ => by rw [← p3]; exact hP, fun q => absurd q (by omega), fun q => absurd q (by omega), fun q => absurd q (by omega), fun q => absurd q (by omega), fun q => absurd q (by omega), fun q => absurd q (by omega), fun q => absurd q (by omega), fun q => absurd q (by omega), fun q => absurd q (by omega)⟩⟩
  · exact ⟨hi 11 0 5, fun P hP => GX11_count hR l ⟨fun q => absurd q (by omega), fun q => absurd q (by omega), fun q => absurd q (by omega), fun q => absurd q (by omega), fun q => absurd q (by omega), fun _ => hP, fun q => absurd q (by omega), fun q => absurd q (by omega), fun q => absurd q (by omega), fun q => absurd q (by omega), fun q => absurd q (by omega), fun q => absurd q (by omega), fun q => absurd q (by omega), fun q => absurd q (by omega)⟩, fun P hP => GX12_count l ⟨fun q => absurd q (by omega), fun q => absurd q (by omega), fun q => absurd q (by omega), fun q => absurd q (by omega), fun q => absurd q (by omega), fun _ => by rw [← t1]; exact hP, fun q => absurd q (by omega), fun q => absurd q (by omega), fun q => absurd q (by omega), fun q => absurd q (by omega), fun q => absurd q (by omega), fun q => absurd q (by omega), fun q => absurd q (by omega), fun q => absurd q (by omega)⟩⟩
  · exact ⟨hi 11 0 6, fun P hP => GX11_count hR l ⟨fun q => absurd q (by omega), fun q => absurd q (by omega), fun q => absurd q (by omega), fun q => absurd q (by omega), fun q => absurd q (by omega), fun q => absurd q (by omega), fun _ => hP, fun q => absurd q (by omega), fun q => absurd q (by omega), fun q => absurd q (by omega), fun q => absurd q (by omega), fun q => absurd q (by omega), fun q => absurd q (by omega), fun q => absurd q (by omega)⟩, fun P hP => GX12_count l ⟨fun q => absurd q (by omega), fun q => absurd q (by omega), fun q => absurd q (by omega), fun q => absurd q (by omega), fun q => absurd q (by omega), fun q => absurd q (by omega), fun _ => by rw [← t2]; exact hP, fun q => absurd q (by omega), fun q => absurd q (by omega), fun q => absurd q (by omega), fun q => absurd q (by omega), fun q => absurd q (by omega), fun q => absurd q (by omega), fun q => absurd q (by omega)⟩⟩
  · exact ⟨hi 11 0 7, fun P hP => GX11_count hR l ⟨fun q => absurd q (by omega), fun q => absurd q (by omega), fun q => absurd q (by omega), fun q => absurd q (by omega), fun q => absurd q (by omega), fun q => absurd q (by omega), fun q => absurd q (by omega), fun _ => hP, fun q => absurd q (by omega), fun q => absurd q (by omega), fun q => absurd q (by omega), fun q => absurd q (by omega), fun q => absurd q (by omega), fun q => absurd q (by omega)⟩, fun P hP => GX12_count l ⟨fun q => absurd q (by omega), fun q => absurd q (by omega), fun q => absurd q (by omega), fun q => absurd q (by omega), fun q => absurd q (by omega), fun q => absurd q (by omega), fun q => absurd q (by omega), fun _ => by rw [← t3]; exact hP, fun q => absurd q (by omega), fun q => absurd q (by omega), fun q => absurd q (by omega), fun q => absurd q (by omega), fun q => absurd q (by omega), fun q => absurd q (by omega)⟩⟩
  · exact ⟨hi 1 0 9, fun P hP => GX11_count hR l ⟨fun q => absurd q (by omega), fun q => absurd q (by omega), fun q => absurd q (by omega), fun q => absurd q (by omega), fun q => absurd q (by omega), fun q => absurd q (by omega), fun q => absurd q (by omega), fun q => absurd q (by omega), fun _ => hP, fun q => absurd q (by omega), fun q => absurd q (by omega), fun q => absurd q (by omega), fun q => absurd q (by omega), fun q => absurd q (by omega)⟩, fun P hP => GX12_count l ⟨fun q => absurd q (by omega), fun q => absurd q (by omega), fun q => absurd q (by omega), fun q => absurd q (by omega), fun q => absurd q (by omega), fun q => absurd q (by omega), fun q => absurd q (by omega), fun q => absurd q (by omega), fun _ => by rw [← s1]; exact hP, fun q => absurd q (by omega), fun q => absurd q (by omega), fun q => absurd q (by omega), fun q => absurd q (by omega), fun q => absurd q (by omega)⟩⟩
  · exact ⟨hi 7 0 4, fun P hP => GX11_count hR l ⟨fun q => absurd q (by omega), fun q => absurd q (by omega), fun q => absurd q (by omega), fun q => absurd q (by omega), fun q => absurd q (by omega), fun q => absurd q (by omega), fun q => absurd q (by omega), fun q => absurd q (by omega), fun q => absurd q (by omega), fun _ => hP, fun q => absurd q (by omega), fun q => absurd q (by omega), fun q => absurd q (by omega), fun q => absurd q (by omega)⟩, fun P hP => GX12_count l ⟨fun q => absurd q (by omega), fun q => absurd q (by omega), fun q => absurd q (by omega), fun q => absurd q (by omega), fun q => absurd q (by omega), fun q => absurd q (by omega), fun q => absurd q (by omega), fun q => absurd q (by omega), fun q => absurd q (by omega), fun _ => by rw [← s7]; exact hP, fun q => absurd q (by omega), fun q => absurd q (by omega), fun q => absurd q (by omega), fun q => absurd q (by omega)⟩⟩
  · exact ⟨hi 7 0 5, fun P hP => GX11_count hR l ⟨fun q => absurd q (by omega), fun q => absurd q (by omega), fun q => absurd q (by omega), fun q => absurd q (by omega), fun q => absurd q (by omega), fun q => absurd q (by omega), fun q => absurd q (by omega), fun q => absurd q (by omega), fun q => absurd q (by omega), fun q => absurd q (by omega), fun _ => hP, fun q => absurd q (by omega), fun q => absurd q (by omega), fun q => absurd q (by omega)⟩, fun P hP => GX12_count l ⟨fun q => absurd q (by omega), fun q => absurd q (by omega), fun q => absurd q (by omega), fun q => absurd q (by omega), fun q => absurd q (by omega), fun q => absurd q (by omega), fun q => absurd q (by omega), fun q => absurd q (by omega), fun q => absurd q (by omega), fun q => absurd q (by omega), fun _ => by rw [← s10]; exact hP, fun q => absurd q (by omega), fun q => absurd q (by omega), fun q => absurd q (by omega)⟩⟩
  · obtain ⟨pi, nm, g1, g2, g3, g4, g5, g6, g7, g8, g9, -⟩ := h.2.2.2.2.2.2.2.2.2.2.2.2.1
    have hb : ∀ i, 0 ≤ i → i < hi 7 0 3 → hi 10 (pi i) 6 = 1 ∨ hi 10 (pi i) 6 = 2 := fun i i0 i1 => (g6 i i0 i1).2.2.2.1
    refine ⟨hi 37 0 37, fun P hP => GX11_count hR l ⟨fun q => absurd q (by omega), fun q => absurd q (by omega), fun q => absurd q (by omega), fun q => absurd q (by omega), fun q => absurd q (by omega), fun q => absurd q (by omega), fun q => absurd q (by omega), fun q => absurd q (by omega), fun q => absurd q (by omega), fun q => absurd q (by omega), fun q => absurd q (by omega), fun _ => GX5_comingsOnTheWay ?_, fun q => absurd q (by omega), fun q => absurd q (by omega)⟩, fun P hP => GX12_count l ⟨fun q => absurd q (by omega), fun q => absurd q (by omega), fun q => absurd q (by omega), fun q => absurd q (by omega), fun q => absurd q (by omega), fun q => absurd q (by omega), fun q => absurd q (by omega), fun q => absurd q (by omega), fun q => absurd q (by omega), fun q => absurd q (by omega), fun q => absurd q (by omega), fun _ => hP, fun q => absurd q (by omega), fun q => absurd q (by omega)⟩⟩
    rw [g7] at hP
    exact coming_loop hR g1 g4 hb (hi 7 0 3).toNat 0 (by omega) (by simp [smI]) (by simp [smI]) P hP
  · exact ⟨hi 1 0 10, fun P hP => GX11_count hR l ⟨fun q => absurd q (by omega), fun q => absurd q (by omega), fun q => absurd q (by omega), fun q => absurd q (by omega), fun q => absurd q (by omega), fun q => absurd q (by omega), fun q => absurd q (by omega), fun q => absurd q (by omega), fun q => absurd q (by omega), fun q => absurd q (by omega), fun q => absurd q (by omega), fun q => absurd q (by omega), fun _ => hP, fun q => absurd q (by omega)⟩, fun P hP => GX12_count l ⟨fun q => absurd q (by omega), fun q => absurd q (by omega), fun q => absurd q (by omega), fun q => absurd q (by omega), fun q => absurd q (by omega), fun q => absurd q (by omega), fun q => absurd q (by omega), fun q => absurd q (by omega), fun q => absurd q (by omega), fun q => absurd q (by omega), fun q => absurd q (by omega), fun q => absurd q (by omega), fun _ => by rw [← s4]; exact hP, fun q => absurd q (by omega)⟩⟩
  · exact ⟨hi 2 0 1, fun P hP => GX11_count hR l ⟨fun q => absurd q (by omega), fun q => absurd q (by omega), fun q => absurd q (by omega), fun q => absurd q (by omega), fun q => absurd q (by omega), fun q => absurd q (by omega), fun q => absurd q (by omega), fun q => absurd q (by omega), fun q => absurd q (by omega), fun q => absurd q (by omega), fun q => absurd q (by omega), fun q => absurd q (by omega), fun q => absurd q (by omega), fun _ => hP⟩, fun P hP => GX12_count l ⟨fun q => absurd q (by omega), fun q => absurd q (by omega), fun q => absurd q (by omega), fun q => absurd q (by omega), fun q => absurd q (by omega), fun q => absurd q (by omega), fun q => absurd q (by omega), fun q => absurd q (by omega), fun q => absurd q (by omega), fun q => absurd q (by omega), fun q => absurd q (by omega), fun q => absurd q (by omega), fun q => absurd q (by omega), fun _ => by rw [← hT]; exact hP⟩⟩
end ZS
