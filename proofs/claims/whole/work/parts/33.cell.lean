theorem mul_bd {a b A B : Int} (h1 : 0 ≤ a) (h2 : a ≤ A) (h3 : 0 ≤ b) (h4 : b ≤ B) : 0 ≤ a * b ∧ a * b ≤ A * B := ⟨Int.mul_nonneg h1 h3, Int.mul_le_mul h2 h4 h3 (by omega)⟩
section ZS
variable {hi : zI} {hr : zR}
theorem neighbour_run (hM : RSm hr) {ln wd i d : Int} (e1 : hi 37 0 5 = ln) (e2 : hi 37 0 6 = wd) (h1 : 1 ≤ ln ∧ ln ≤ 16) (h2 : 1 ≤ wd ∧ wd ≤ 16) (hi0 : 0 ≤ i) (hi1 : i < 512) : R0i mX12_neighbour [.inr (some (37, 0)), .inl i, .inl d] hi hr (nbr ln wd (hi 39 0) i d) := by
  have hq : 0 ≤ i / wd := Int.ediv_nonneg hi0 (by omega)
  have hq2 : i / wd ≤ i := Int.ediv_le_self _ hi0
  have hm : 0 ≤ i % wd := Int.emod_nonneg _ (by omega)
  have hm2 : i % wd < wd := Int.emod_lt_of_pos _ (by omega)
  have key : ∀ (y0 x0 : Int), -1 ≤ y0 → y0 ≤ 1 → -1 ≤ x0 → x0 ≤ 1 → ∀ P : Int → Prop, P (if i / wd + y0 < 0 ∨ ln ≤ i / wd + y0 ∨ i % wd + x0 < 0 ∨ wd ≤ i % wd + x0 ∨ hi 39 0 ((i / wd + y0) * wd + (i % wd + x0)) = 0 then -1 else (i / wd + y0) * wd + (i % wd + x0)) →
      WP mX12_neighbour 51 [some (.inr (some (37, 0))), some (.inl i), some (.inl d), some (.inl (i / wd + y0)), none] [.inl x0, .inl (i % wd)] hi hr (zQ0i hi hr P) := by
    intro y0 x0 a1 a2 a3 a4 P hP
    refine GX12_neighbour_51 hM i d _ _ _ ?_
    rw [e1, e2]
    refine ⟨⟨by omega, by omega⟩, ?_⟩
    by_cases c1 : i / wd + y0 < 0
    · rw [if_pos (Or.inl c1)] at hP
      exact ⟨fun _ => hP, fun q => absurd q (by omega)⟩
    by_cases c2 : ln ≤ i / wd + y0
    · rw [if_pos (Or.inr (Or.inl c2))] at hP
      exact ⟨fun _ => hP, fun _ => ⟨fun _ => hP, fun q => absurd q (by omega)⟩⟩
    by_cases c3 : i % wd + x0 < 0
    · rw [if_pos (Or.inr (Or.inr (Or.inl c3)))] at hP
      exact ⟨fun q => absurd q (by omega), fun _ => ⟨fun q => absurd q (by omega), fun _ => ⟨fun _ => hP, fun q => absurd q (by omega)⟩⟩⟩
    by_cases c4 : wd ≤ i % wd + x0
    · rw [if_pos (Or.inr (Or.inr (Or.inr (Or.inl c4))))] at hP
      exact ⟨fun q => absurd q (by omega), fun _ => ⟨fun q => absurd q (by omega), fun _ => ⟨fun _ => hP, fun _ => ⟨fun _ => hP, fun q => absurd q (by omega)⟩⟩⟩⟩
    have hb := mul_bd (a := i / wd + y0) (b := wd) (A := 15) (B := 16) (by omega) (by omega) (by omega) (by omega)
    refine ⟨fun q => absurd q c1, fun _ => ⟨fun q => absurd q c2, fun _ => ⟨fun q => absurd q c3, fun _ => ⟨fun q => absurd q c4, fun _ => ⟨⟨by omega, by omega⟩, ⟨by omega, by omega⟩, ⟨by omega, by omega⟩, fun q => ⟨⟨by omega, by omega⟩, ⟨by omega, by omega⟩, ?_⟩, fun q => ?_⟩⟩⟩⟩⟩
    · rw [if_neg (by rintro (h | h | h | h | h) <;> first | exact q h | omega)] at hP
      exact hP
    · rw [if_pos (Or.inr (Or.inr (Or.inr (Or.inr q))))] at hP
      exact hP
  have key2 : ∀ (y0 : Int), -1 ≤ y0 → y0 ≤ 1 → ∀ P : Int → Prop, P (if i / wd + y0 < 0 ∨ ln ≤ i / wd + y0 ∨ i % wd + (if d = 1 then 1 else if d = 3 then -1 else 0) < 0 ∨ wd ≤ i % wd + (if d = 1 then 1 else if d = 3 then -1 else 0) ∨ hi 39 0 ((i / wd + y0) * wd + (i % wd + (if d = 1 then 1 else if d = 3 then -1 else 0))) = 0 then -1 else (i / wd + y0) * wd + (i % wd + (if d = 1 then 1 else if d = 3 then -1 else 0))) →
      WP mX12_neighbour 24 [some (.inr (some (37, 0))), some (.inl i), some (.inl d), none, none] [.inl y0, .inl (i / wd)] hi hr (zQ0i hi hr P) := by
    intro y0 a1 a2 P hP
    refine GX12_neighbour_24 i d _ _ ?_
    rw [e2]
    refine ⟨⟨by omega, by omega⟩, ⟨hi0, by omega⟩, fun q1 => ⟨fun q3 => ?_, fun q3 => ?_⟩, fun q1 => ?_⟩
    · rw [if_neg q1, if_neg q3] at hP
      exact key y0 0 a1 a2 (by omega) (by omega) P hP
    · rw [if_neg q1, if_pos q3] at hP
      exact key y0 (-1) a1 a2 (by omega) (by omega) P hP
    · rw [if_pos q1] at hP
      exact key y0 1 a1 a2 (by omega) (by omega) P hP
  intro P hP
  unfold nbr at hP
  refine GX12_neighbour i d ?_
  rw [e2]
  refine ⟨⟨hi0, by omega⟩, fun q0 => ⟨fun q2 => ?_, fun q2 => ?_⟩, fun q0 => ?_⟩
  · rw [if_neg q0, if_neg q2] at hP
    exact key2 0 (by omega) (by omega) P hP
  · rw [if_neg q0, if_pos q2] at hP
    exact key2 1 (by omega) (by omega) P hP
  · rw [if_pos q0] at hP
    exact key2 (-1) (by omega) (by omega) P hP
theorem hasCell_run {j l : Int} (hj : 0 ≤ j ∧ j < 2) (hs : hi 30 j 5 ≤ 256) (x : Int) (h : (x = 1 ∧ 0 ≤ l ∧ l < hi 30 j 5) ∨ (x = 0 ∧ ¬ (0 ≤ l ∧ l < hi 30 j 5))) : R0i mX10_hasCell [.inr (some (30, j)), .inl l] hi hr x := by
  intro P hP
  refine GX10_hasCell j l hj ?_
  rcases h with ⟨rfl, h⟩ | ⟨rfl, h⟩
  · (repeat' first | with_reducible apply And.intro | with_reducible intro _) <;> first | omega | exact hP | (exfalso; omega)
  · (repeat' first | with_reducible apply And.intro | with_reducible intro _) <;> first | omega | exact hP | (exfalso; omega)
theorem kindOf_run (hR : RSc hr) {j l : Int} (hj : 0 ≤ j ∧ j < 2) (hs : hi 30 j 5 ≤ 256) (x : Int) (h : (x = hi 31 j l ∧ 0 ≤ l ∧ l < hi 30 j 5) ∨ (x = -1 ∧ ¬ (0 ≤ l ∧ l < hi 30 j 5))) : R0i mX10_kindOf [.inr (some (30, j)), .inl l] hi hr x := by
  intro P hP
  refine GX10_kindOf hR j l hj ?_
  rcases h with ⟨rfl, h⟩ | ⟨rfl, h⟩
  · exact hasCell_run hj hs 1 (by omega) _ ⟨fun q => absurd q (by decide), fun _ => ⟨by omega, hP⟩⟩
  · exact hasCell_run hj hs 0 (by omega) _ ⟨fun _ => hP, fun q => absurd rfl q⟩
theorem cneighbour_run (hR : RSc hr) {j l d : Int} (hj : 0 ≤ j ∧ j < 2) (hs : hi 30 j 5 ≤ 256) (hl : 0 ≤ l ∧ l < hi 30 j 5) (hd : 0 ≤ d ∧ d < 4) : R0i mX10_neighbour [.inr (some (30, j)), .inl l, .inl d] hi hr (hi 33 j (l * 4 + d)) := by
  intro P hP
  refine GX10_neighbour hR j l d hj (hasCell_run hj hs 1 (by omega) _ ⟨fun q => absurd q (by decide), fun _ => ⟨fun q => absurd q (by omega), fun _ => ⟨fun q => absurd q (by omega), fun _ => ⟨⟨by omega, by omega⟩, ⟨by omega, by omega⟩, ⟨by omega, by omega⟩, hP⟩⟩⟩⟩)
/-- scratch does not count -/
theorem Rl.onC' {f a s l e : Int} {r : zR} (h : Rl f a s l e hi r hi) (w x y : Int) : Rl f a s l e (wtS hi w x y) r (wtS hi w x y) := by
  obtain ⟨h1, h2, h3, h4, h5, h6, h7, h8, h9, h10, h11, h12, h13, h14⟩ := h
  exact ⟨h1, h2, h3, h4, h5, h6, h7, h8, h9, h10, h11, h12, h13, h14⟩
/-- the first of 0 .. n - 1 at which f is c, from a on; -1: none -/
def fstF (f : Int → Int) (c a : Int) : Nat → Int
  | 0 => -1
  | k + 1 => if f a = c then a else fstF f c (a + 1) k
theorem vehicleIn_loop (hR : RSc hr) {j c : Int} (hj : 0 ≤ j ∧ j < 2) (e : hr 1 0 6 = some (30, j)) (hv : hi 30 j 8 ≤ 6) {f : Int → Int} (hf : ∀ v, 0 ≤ v → v < 6 → hi 36 v 0 = f v) : ∀ (k : Nat) (a : Int) (u : Option zV), 0 ≤ a → a + k = hi 30 j 8 → ∀ P : Int → Prop, P (fstF f c a k) → WP mX11_vehicleIn 2 [some (.inr (some (1, 0))), some (.inl c), some (.inl a), u] [] hi hr (zQ0i hi hr P) := by
  intro k
  induction k with
  | zero =>
    intro a u h0 h1 P hP
    exact GX11_vehicleIn_2 c a u ⟨j, e, hj, fun _ => hP, fun q => absurd q (by omega)⟩
  | succ k ih =>
    intro a u h0 h1 P hP
    unfold fstF at hP
    refine GX11_vehicleIn_2 c a u ⟨j, e, hj, fun q => absurd q (by omega), fun _ => vehicleAt_run hR hj e hv _ (Or.inl ⟨h0, by omega, rfl⟩) _ ⟨fun q => (by cases q), fun w q => ⟨a, (by cases q; rfl), ?_⟩⟩⟩
    rw [hf a h0 (by omega)]
    by_cases h : f a = c
    · rw [if_pos h] at hP
      exact ⟨fun q => absurd h q, fun _ => hP⟩
    · rw [if_neg h] at hP
      exact ⟨fun _ => ⟨⟨by omega, by omega⟩, ih (a + 1) _ (by omega) (by omega) P hP⟩, fun q => absurd q h⟩
theorem mvehicleIn_loop (hM : RSm hr) {c t vn : Int} (hvn : hi 37 0 10 = vn) (hv : vn ≤ 6) : ∀ (k : Nat) (a : Int), 0 ≤ a → a + k = vn → ∀ P : Int → zI → Prop, P (fstF (hi 67 0) c a k) hi → WP mX12_cell 96 [some (.inr (some (37, 0))), some (.inl c), some (.inl t), some (.inl a)] [] hi hr (zQ1i hr P) := by
  intro k
  induction k with
  | zero =>
    intro a h0 h1 P hP
    exact GX12_cell_96 hM c t a ⟨fun _ => hP, fun q => absurd q (by omega)⟩
  | succ k ih =>
    intro a h0 h1 P hP
    unfold fstF at hP
    refine GX12_cell_96 hM c t a ⟨fun q => absurd q (by omega), fun _ => ⟨by omega, ?_⟩⟩
    by_cases h : hi 67 0 a = c
    · rw [if_pos h] at hP
      exact ⟨fun q => absurd h q, fun _ => hP⟩
    · rw [if_neg h] at hP
      exact ⟨fun _ => ⟨⟨by omega, by omega⟩, ih (a + 1) (by omega) (by omega) P hP⟩, fun q => absurd q h⟩
theorem SimI.ex01 {y y' : zM} {vs : List zV} (h : ∃ x m', R0i y (.inr (some (1, 0)) :: vs) hi hr x ∧ R1i y' (.inr (some (37, 0)) :: vs) hi hr x m' ∧ RLb m' hr m') : SimI y y' vs hi hr := by
  obtain ⟨x, m', h1, h2, h3⟩ := h
  exact SimI.of01 h1 h2 h3
theorem waits_run {f a s l e : Int} {m : zI} (h : Rl f a s l e hi hr m) (c : Int) : R0i mX1_waitingAt [.inr (some (17, 0)), .inl c] hi hr (smI (ctW (m 54 0) (m 55 0) (m 75 0) (m 76 0) (m 77 0) c) (m 37 0 10).toNat) ∧ R0i mX1_firstWaitingAt [.inr (some (17, 0)), .inl c] hi hr (fwW (m 54 0) (m 55 0) (m 56 0) (m 75 0) (m 76 0) (m 77 0) c (m 37 0 10).toNat).1 ∧ WtM (m 37 0 10) (m 54 0) (m 55 0) (m 56 0) (m 75 0) (m 76 0) (m 77 0) ∧ ∀ v, 0 ≤ v → v < m 37 0 10 → R0i mX0_nextActTo [.inr (some (24, v)), .inl c] hi hr (nxW (m 54 0) (m 55 0) (m 75 0) (m 76 0) (m 77 0) c v) := by
  have hR := h.1
  obtain ⟨s1, s2, s3, s4, s5, s6, s7, s8, s9, s10, s11, s12, s13⟩ := h.2.2.2.1
  obtain ⟨jm, e1, e2, e3, p1, p2, p3, p4, p5, p6, p7, p8, p9, p10, p11, p12, p13, p14, p15, p16⟩ := h.2.2.2.2.2.2.2.1
  have ha := h.2.2.2.2.2.2.2.2.2.1
  have hr2 := h.2.2.2.2.2.2.2.2.2.2.1
  have hI := h.2.2.2.2.2.2.2.2.2.2.2.1
  have hW := WtM.of hr2 hI (by omega) p12
  have hn : ∀ v, 0 ≤ v → v < m 37 0 10 → R0i mX0_nextActTo [.inr (some (24, v)), .inl c] hi hr (nxW (m 54 0) (m 55 0) (m 75 0) (m 76 0) (m 77 0) c v) ∧ R0i mX0_openActsTo [.inr (some (24, v)), .inl c] hi hr (ctW (m 54 0) (m 55 0) (m 75 0) (m 76 0) (m 77 0) c v) := by
    intro v v0 v1
    obtain ⟨g1, g2, g3, g4, g5⟩ := hW.2.2 v v0 v1
    have hk := kn_eq ha v0 (show v < 6 by omega)
    obtain ⟨r1, r2, -⟩ := hr2 v v0 v1
    have hrf := route_fno hr2 v0 v1 g4 g3
    have h1 := nextActTo_run hR (c := c) (v := v) (by omega) ⟨by rw [r2]; exact g1, hr2.rt s3 v0 v1⟩ hk g3 (by rw [r2]; exact g4)
    have h2 := openActsTo_run hR (c := c) (v := v) (by omega) ⟨by rw [r2]; exact g1, hr2.rt s3 v0 v1⟩ hk g3 (by rw [r2]; exact g4)
    rw [(hrf.2 c).1] at h1
    rw [(hrf.2 c).2] at h2
    exact ⟨h1, h2⟩
  refine ⟨fun P hP => GX1_waitingAt c ?_, fun P hP => GX1_firstWaitingAt c ?_, hW, fun v v0 v1 => (hn v v0 v1).1⟩
  · refine waitingAt_loop hR s13 p12 (fun v v0 v1 => ⟨(hn v v0 v1).2, ?_⟩) (m 37 0 10).toNat 0 (by omega) (by simp [smI]) (by simp [smI]) P hP
    obtain ⟨g1, g2, g3, g4, g5⟩ := hW.2.2 v v0 v1
    have hfp := fnoF_pos (fun i => m 55 0 (301 * v + i)) (kn := knF (m 75 0) (m 76 0) (m 77 0) v) g1
    have hcb := ctA_b (fun i => m 55 0 (301 * v + i)) c (m 54 0 v + 1 - fnoF (fun i => m 55 0 (301 * v + i)) (m 54 0 v) (knF (m 75 0) (m 76 0) (m 77 0) v)).toNat (fnoF (fun i => m 55 0 (301 * v + i)) (m 54 0 v) (knF (m 75 0) (m 76 0) (m 77 0) v))
    unfold ctW
    omega
  · refine firstWaitingAt_loop hR s13 (nx := nxW (m 54 0) (m 55 0) (m 75 0) (m 76 0) (m 77 0) c) (mo := fun v => m 56 0 (301 * v + nxW (m 54 0) (m 55 0) (m 75 0) (m 76 0) (m 77 0) c v)) p12 (fun v v0 v1 => ⟨(hn v v0 v1).1, ?_⟩) (m 37 0 10).toNat 0 0 none none (by omega) (fun q => absurd rfl q) P hP
    obtain ⟨r1, r2, r3, r4, r5, r6, r7, -⟩ := hr2 v v0 v1
    rcases nxW_spec hW v0 v1 c with q | ⟨q1, q2, q3⟩
    · exact ⟨-1, momentOfAct_run hR (by omega) (by omega) _ (Or.inr ⟨rfl, by omega⟩), fun x => absurd q x⟩
    · exact ⟨_, momentOfAct_run hR (by omega) (by omega) _ (Or.inl ⟨rfl, q1, by omega⟩), fun _ => (r7 _ q1 q2).2.1⟩
set_option maxHeartbeats 4000000 in
theorem sim_cell (h : RLb hi hr hi) (l t : Int) : SimI mX11_cell mX12_cell [.inl l, .inl t] hi hr := by
  have hR := h.1
  have hM := h.2.1
  obtain ⟨hw1, hw2, hw3, -⟩ := waits_run h l
  obtain ⟨jm, e1, e2, e3, p1, p2, p3, p4, p5, p6, p7, p8, p9, p10, p11, p12, p13, p14, p15, p16⟩ := h.2.2.2.2.2.2.2.1
  have hV := h.2.2.2.2.2.2.2.2.1
  have hj : 0 ≤ jm ∧ jm < 2 := by omega
  have hmul := mul_bd (a := hi 37 0 5) (b := hi 37 0 6) (A := 16) (B := 16) (by omega) (by omega) (by omega) (by omega)
  refine SimI.ex01 ?_
  by_cases hl : 0 ≤ l ∧ l < hi 37 0 5 * hi 37 0 6
  · have cc : ∀ {P : Int → Prop}, _ → W0i mX11_cell [.inr (some (1, 0)), .inl l, .inl t] hi hr P := fun {P} F => GX11_cell hR l t ⟨jm, e2, hj, hasCell_run hj (by omega) 1 (by omega) _ ⟨fun _ => F, fun q => absurd q (by decide)⟩⟩
    have mm : ∀ {P : Int → zI → Prop}, (t < 0 → P (-1) hi) ∧ _ → W1i mX12_cell [.inr (some (37, 0)), .inl l, .inl t] hi hr P := fun {P} F => GX12_cell hM l t ⟨fun q => absurd q (by omega), fun _ => ⟨⟨by omega, by omega⟩, fun q => absurd q (by omega), fun _ => F⟩⟩
    obtain ⟨a1, a2, a3, a4, a5⟩ := p13 l hl.1 hl.2
    rcases (show t < 0 ∨ 8 < t ∨ t = 0 ∨ t = 1 ∨ t = 2 ∨ t = 3 ∨ t = 4 ∨ t = 5 ∨ t = 6 ∨ t = 7 ∨ t = 8 by omega) with q0 | q0 | q0 | q0 | q0 | q0 | q0 | q0 | q0 | q0 | q0
    · exact ⟨-1, hi, fun P hP => cc ⟨fun _ => hP, fun q => absurd q (by omega), fun q => absurd q (by omega), fun q => absurd q (by omega), fun q => absurd q (by omega), fun q => absurd q (by omega), fun q => absurd q (by omega), fun q => absurd q (by omega), fun q => absurd q (by omega), fun q => absurd q (by omega)⟩, fun P hP => mm ⟨fun _ => hP, fun q => absurd q (by omega)⟩, h⟩
    · exact ⟨-1, hi, fun P hP => cc ⟨fun _ => hP, fun q => absurd q (by omega), fun q => absurd q (by omega), fun q => absurd q (by omega), fun q => absurd q (by omega), fun q => absurd q (by omega), fun q => absurd q (by omega), fun q => absurd q (by omega), fun q => absurd q (by omega), fun q => absurd q (by omega)⟩, fun P hP => mm ⟨fun _ => hP, fun _ => ⟨fun q => absurd q (by omega), fun _ => hP⟩⟩, h⟩
    · exact ⟨hi 31 jm l, hi, fun P hP => cc ⟨fun q => absurd q (by omega), fun _ => kindOf_run hR hj (by omega) _ (Or.inl ⟨rfl, hl.1, by omega⟩) _ hP, fun q => absurd q (by omega), fun q => absurd q (by omega), fun q => absurd q (by omega), fun q => absurd q (by omega), fun q => absurd q (by omega), fun q => absurd q (by omega), fun q => absurd q (by omega), fun q => absurd q (by omega)⟩, fun P hP => mm ⟨fun q => absurd q (by omega), fun _ => ⟨fun _ => ⟨fun q => absurd q (by omega), fun _ => ⟨by omega, by rw [← a1]; exact hP⟩, fun q => absurd q (by omega), fun q => absurd q (by omega), fun q => absurd q (by omega), fun q => absurd q (by omega), fun q => absurd q (by omega), fun q => absurd q (by omega), fun q => absurd q (by omega), fun q => absurd q (by omega)⟩, fun q => absurd q (by omega)⟩⟩, h⟩
    · exact ⟨hi 32 jm l, hi, fun P hP => cc ⟨fun q => absurd q (by omega), fun q => absurd q (by omega), fun _ => GX10_ordinalOf hR jm l hj (hasCell_run hj (by omega) 1 (by omega) _ ⟨fun q => absurd q (by decide), fun _ => ⟨by omega, hP⟩⟩), fun q => absurd q (by omega), fun q => absurd q (by omega), fun q => absurd q (by omega), fun q => absurd q (by omega), fun q => absurd q (by omega), fun q => absurd q (by omega), fun q => absurd q (by omega)⟩, fun P hP => mm ⟨fun q => absurd q (by omega), fun _ => ⟨fun _ => ⟨fun q => absurd q (by omega), fun q => absurd q (by omega), fun _ => ⟨by omega, by rw [← a4]; exact hP⟩, fun q => absurd q (by omega), fun q => absurd q (by omega), fun q => absurd q (by omega), fun q => absurd q (by omega), fun q => absurd q (by omega), fun q => absurd q (by omega), fun q => absurd q (by omega)⟩, fun q => absurd q (by omega)⟩⟩, h⟩
    · refine ⟨fstF (hi 67 0) l 0 (hi 37 0 10).toNat, hi, fun P hP => cc ⟨fun q => absurd q (by omega), fun q => absurd q (by omega), fun q => absurd q (by omega), fun _ => GX11_vehicleIn l (vehicleIn_loop hR hj e2 (by omega) (fun v v0 v1 => (hV v v0 v1).1) (hi 37 0 10).toNat 0 none (by omega) (by omega) P hP), fun q => absurd q (by omega), fun q => absurd q (by omega), fun q => absurd q (by omega), fun q => absurd q (by omega), fun q => absurd q (by omega), fun q => absurd q (by omega)⟩, fun P hP => mm ⟨fun q => absurd q (by omega), fun _ => ⟨fun _ => ⟨fun q => absurd q (by omega), fun q => absurd q (by omega), fun q => absurd q (by omega), fun _ => mvehicleIn_loop hM rfl p12 (hi 37 0 10).toNat 0 (by omega) (by omega) P hP, fun q => absurd q (by omega), fun q => absurd q (by omega), fun q => absurd q (by omega), fun q => absurd q (by omega), fun q => absurd q (by omega), fun q => absurd q (by omega)⟩, fun q => absurd q (by omega)⟩⟩, h⟩
    · refine ⟨hi 33 jm (l * 4 + (t - 3)), hi, fun P hP => cc ⟨fun q => absurd q (by omega), fun q => absurd q (by omega), fun q => absurd q (by omega), fun q => absurd q (by omega), fun _ => ⟨⟨by omega, by omega⟩, cneighbour_run hR hj (by omega) ⟨hl.1, by omega⟩ (by omega) _ hP⟩, fun q => absurd q (by omega), fun q => absurd q (by omega), fun q => absurd q (by omega), fun q => absurd q (by omega), fun q => absurd q (by omega)⟩, fun P hP => mm ⟨fun q => absurd q (by omega), fun _ => ⟨fun _ => ⟨fun q => absurd q (by omega), fun q => absurd q (by omega), fun q => absurd q (by omega), fun q => absurd q (by omega), fun _ => ⟨⟨by omega, by omega⟩, neighbour_run hM rfl rfl ⟨p5, p6⟩ ⟨p7, p8⟩ hl.1 (by omega) _ (by rw [← a5 (t - 3) (by omega) (by omega)]; exact hP)⟩, fun q => absurd q (by omega), fun q => absurd q (by omega), fun q => absurd q (by omega), fun q => absurd q (by omega), fun q => absurd q (by omega)⟩, fun q => absurd q (by omega)⟩⟩, h⟩
    · refine ⟨hi 33 jm (l * 4 + (t - 3)), hi, fun P hP => cc ⟨fun q => absurd q (by omega), fun q => absurd q (by omega), fun q => absurd q (by omega), fun q => absurd q (by omega), fun q => absurd q (by omega), fun _ => ⟨⟨by omega, by omega⟩, cneighbour_run hR hj (by omega) ⟨hl.1, by omega⟩ (by omega) _ hP⟩, fun q => absurd q (by omega), fun q => absurd q (by omega), fun q => absurd q (by omega), fun q => absurd q (by omega)⟩, fun P hP => mm ⟨fun q => absurd q (by omega), fun _ => ⟨fun _ => ⟨fun q => absurd q (by omega), fun q => absurd q (by omega), fun q => absurd q (by omega), fun q => absurd q (by omega), fun q => absurd q (by omega), fun _ => ⟨⟨by omega, by omega⟩, neighbour_run hM rfl rfl ⟨p5, p6⟩ ⟨p7, p8⟩ hl.1 (by omega) _ (by rw [← a5 (t - 3) (by omega) (by omega)]; exact hP)⟩, fun q => absurd q (by omega), fun q => absurd q (by omega), fun q => absurd q (by omega), fun q => absurd q (by omega)⟩, fun q => absurd q (by omega)⟩⟩, h⟩
    · refine ⟨hi 33 jm (l * 4 + (t - 3)), hi, fun P hP => cc ⟨fun q => absurd q (by omega), fun q => absurd q (by omega), fun q => absurd q (by omega), fun q => absurd q (by omega), fun q => absurd q (by omega), fun q => absurd q (by omega), fun _ => ⟨⟨by omega, by omega⟩, cneighbour_run hR hj (by omega) ⟨hl.1, by omega⟩ (by omega) _ hP⟩, fun q => absurd q (by omega), fun q => absurd q (by omega), fun q => absurd q (by omega)⟩, fun P hP => mm ⟨fun q => absurd q (by omega), fun _ => ⟨fun _ => ⟨fun q => absurd q (by omega), fun q => absurd q (by omega), fun q => absurd q (by omega), fun q => absurd q (by omega), fun q => absurd q (by omega), fun q => absurd q (by omega), fun _ => ⟨⟨by omega, by omega⟩, neighbour_run hM rfl rfl ⟨p5, p6⟩ ⟨p7, p8⟩ hl.1 (by omega) _ (by rw [← a5 (t - 3) (by omega) (by omega)]; exact hP)⟩, fun q => absurd q (by omega), fun q => absurd q (by omega), fun q => absurd q (by omega)⟩, fun q => absurd q (by omega)⟩⟩, h⟩
    · refine ⟨hi 33 jm (l * 4 + (t - 3)), hi, fun P hP => cc ⟨fun q => absurd q (by omega), fun q => absurd q (by omega), fun q => absurd q (by omega), fun q => absurd q (by omega), fun q => absurd q (by omega), fun q => absurd q (by omega), fun q => absurd q (by omega), fun _ => ⟨⟨by omega, by omega⟩, cneighbour_run hR hj (by omega) ⟨hl.1, by omega⟩ (by omega) _ hP⟩, fun q => absurd q (by omega), fun q => absurd q (by omega)⟩, fun P hP => mm ⟨fun q => absurd q (by omega), fun _ => ⟨fun _ => ⟨fun q => absurd q (by omega), fun q => absurd q (by omega), fun q => absurd q (by omega), fun q => absurd q (by omega), fun q => absurd q (by omega), fun q => absurd q (by omega), fun q => absurd q (by omega), fun _ => ⟨⟨by omega, by omega⟩, neighbour_run hM rfl rfl ⟨p5, p6⟩ ⟨p7, p8⟩ hl.1 (by omega) _ (by rw [← a5 (t - 3) (by omega) (by omega)]; exact hP)⟩, fun q => absurd q (by omega), fun q => absurd q (by omega)⟩, fun q => absurd q (by omega)⟩⟩, h⟩
    · refine ⟨_, _, fun P hP => cc ⟨fun q => absurd q (by omega), fun q => absurd q (by omega), fun q => absurd q (by omega), fun q => absurd q (by omega), fun q => absurd q (by omega), fun q => absurd q (by omega), fun q => absurd q (by omega), fun q => absurd q (by omega), fun _ => hw1 _ hP, fun q => absurd q (by omega)⟩, fun P hP => mm ⟨fun q => absurd q (by omega), fun _ => ⟨fun _ => ⟨fun q => absurd q (by omega), fun q => absurd q (by omega), fun q => absurd q (by omega), fun q => absurd q (by omega), fun q => absurd q (by omega), fun q => absurd q (by omega), fun q => absurd q (by omega), fun q => absurd q (by omega), fun _ => waitFor_run hM (by omega) hw3 rfl _ hP, fun q => absurd q (by omega)⟩, fun q => absurd q (by omega)⟩⟩, h.onC' _ _ _⟩
    · refine ⟨_, _, fun P hP => cc ⟨fun q => absurd q (by omega), fun q => absurd q (by omega), fun q => absurd q (by omega), fun q => absurd q (by omega), fun q => absurd q (by omega), fun q => absurd q (by omega), fun q => absurd q (by omega), fun q => absurd q (by omega), fun q => absurd q (by omega), fun _ => hw2 _ hP⟩, fun P hP => mm ⟨fun q => absurd q (by omega), fun _ => ⟨fun _ => ⟨fun q => absurd q (by omega), fun q => absurd q (by omega), fun q => absurd q (by omega), fun q => absurd q (by omega), fun q => absurd q (by omega), fun q => absurd q (by omega), fun q => absurd q (by omega), fun q => absurd q (by omega), fun q => absurd q (by omega), fun _ => waitFor_run hM (by omega) hw3 rfl _ hP⟩, fun q => absurd q (by omega)⟩⟩, h.onC' _ _ _⟩
  · refine ⟨-1, hi, fun P hP => GX11_cell hR l t ⟨jm, e2, hj, hasCell_run hj (by omega) 0 (by omega) _ ⟨fun q => absurd rfl q, fun _ => hP⟩⟩, fun P hP => GX12_cell hM l t ⟨fun _ => hP, fun _ => ⟨⟨by omega, by omega⟩, fun _ => hP, fun q => absurd q (by omega)⟩⟩, h⟩
end ZS
