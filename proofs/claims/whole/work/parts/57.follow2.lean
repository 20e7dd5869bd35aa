def cW (hi : zI) (v c : Int) : zI := zup (zup hi 25 v 4 (hi 25 v 4 + 1)) 26 v (hi 25 v 4 + 1) c
def cA (hi : zI) (v : Int) : zI := zup (zup hi 25 v 5 (hi 25 v 5 + 1)) 28 v (hi 25 v 5 + 1) (hi 25 v 3 + hi 25 v 4)
theorem cW_25 (hi : zI) (v c s : Int) : cW hi v c 25 v s = if s = 4 then hi 25 v 4 + 1 else hi 25 v s := by
  unfold cW
  rw [zup_kf _ _ _ _ (by decide), zup_at]
theorem cW_4 (hi : zI) (v c : Int) : cW hi v c 25 v 3 = hi 25 v 3 := by rw [cW_25, if_neg (by decide)]
theorem cW_6 (hi : zI) (v c : Int) : cW hi v c 25 v 5 = hi 25 v 5 := by rw [cW_25, if_neg (by decide)]
theorem cW_5 (hi : zI) (v c : Int) : cW hi v c 25 v 4 = hi 25 v 4 + 1 := by rw [cW_25, if_pos rfl]
theorem cW_26 (hi : zI) (v c s : Int) : cW hi v c 26 v s = if s = hi 25 v 4 + 1 then c else hi 26 v s := by
  unfold cW
  rw [zup_at, zup_kf _ _ _ _ (by decide)]
theorem cW_k (hi : zI) (v c : Int) {q : Nat} (h : q ≠ 25) (h' : q ≠ 26) : cW hi v c q = hi q := by
  unfold cW
  rw [zup_kf _ _ _ _ h', zup_kf _ _ _ _ h]
theorem cW_j (hi : zI) (v c : Int) {q : Nat} {j : Int} (h : j ≠ v) : cW hi v c q j = hi q j := by
  unfold cW
  funext s
  rw [zup_j _ _ _ _ _ _ h] <;> rw [zup_j _ _ _ _ _ _ h]
theorem cA_25 (hi : zI) (v s : Int) : cA hi v 25 v s = if s = 5 then hi 25 v 5 + 1 else hi 25 v s := by
  unfold cA
  rw [zup_kf _ _ _ _ (by decide), zup_at]
theorem cA_28 (hi : zI) (v s : Int) : cA hi v 28 v s = if s = hi 25 v 5 + 1 then hi 25 v 3 + hi 25 v 4 else hi 28 v s := by
  unfold cA
  rw [zup_at, zup_kf _ _ _ _ (by decide)]
theorem cA_k (hi : zI) (v : Int) {q : Nat} (h : q ≠ 25) (h'' : q ≠ 28) : cA hi v q = hi q := by
  unfold cA
  rw [zup_kf _ _ _ _ h'', zup_kf _ _ _ _ h]
theorem cA_j (hi : zI) (v : Int) {q : Nat} {j : Int} (h : j ≠ v) : cA hi v q j = hi q j := by
  unfold cA
  funext s
  rw [zup_j _ _ _ _ _ _ h] <;> rw [zup_j _ _ _ _ _ _ h]
/-- a step of the class's trip -/
def CF (hi hi' : zI) (v i p q : Int) : Prop := (∀ z, z ≠ 25 → z ≠ 26 → z ≠ 27 → z ≠ 28 → hi' z = hi z) ∧ (∀ z j, j ≠ v → hi' z j = hi z j) ∧ (∀ j, hi' 26 v j = if j = i + 1 then q / 3 else hi 26 v j) ∧
  ((q = p ∧ (∀ s, hi' 25 v s = if s = 4 then i + 1 else hi 25 v s) ∧ hi' 28 v = hi 28 v) ∨
   (q ≠ p ∧ (∀ j, hi' 28 v j = if j = hi 25 v 5 + 1 then hi 25 v 3 + (i + 1) else hi 28 v j) ∧ (∀ s, hi' 25 v s = if s = 4 then i + 1 else if s = 5 then hi 25 v 5 + 1 else if q / 3 = p / 3 ∧ s = (if q % 3 = 1 then 6 else 7) then hi 25 v 5 + 1 else hi 25 v s)))
section ZP
variable {jm ln wd vn v a b t0 : Int} {k pk tr tb te : Int → Int} {hi : zI} {r : zR}
theorem addStep_run (R : RSc r) (hv : 0 ≤ v ∧ v < 6) (h5 : 0 ≤ hi 25 v 4 ∧ hi 25 v 4 < 300) (c : Int) : R1i mX6_addStep [.inr (some (25, v)), .inl c] hi r 1 (cW hi v c) := by
  intro P hP
  exact GX6_addStep R v c hv ⟨fun q => absurd q (by omega), fun _ => ⟨fun _ => ⟨⟨by omega, by omega⟩, by omega, hP⟩, fun q => absurd q (by omega)⟩⟩
theorem addAct_run (R : RSc r) (hv : 0 ≤ v ∧ v < 6) (h6 : 0 ≤ hi 25 v 5 ∧ hi 25 v 5 < 300) (h4 : 0 ≤ hi 25 v 3 ∧ hi 25 v 3 ≤ 600) (h5 : 0 ≤ hi 25 v 4 ∧ hi 25 v 4 ≤ 300) : R1v mX6_addAct [.inr (some (25, v))] hi r (cA hi v) := by
  intro P hP
  exact GX6_addAct R v hv ⟨fun q => absurd q (by omega), fun _ => ⟨fun _ => ⟨⟨by omega, by omega⟩, ⟨by omega, by omega⟩, by omega, hP⟩, fun q => absurd q (by omega)⟩⟩
theorem addMove_run (R : RSc r) (hv : 0 ≤ v ∧ v < 6) (h4 : 0 ≤ hi 25 v 3 ∧ hi 25 v 3 ≤ 600) (h5 : 0 ≤ hi 25 v 4 ∧ hi 25 v 4 < 300) (h6 : 0 ≤ hi 25 v 5 ∧ hi 25 v 5 < 300) (c : Int) : R1v mX6_addMove [.inr (some (25, v)), .inl c] hi r (cA (cW hi v c) v) := by
  intro P hP
  refine GX6_addMove v c hv (addStep_run R hv h5 c _ ⟨fun q => absurd q (by decide), fun _ => addAct_run R hv ?_ ?_ ?_ _ hP⟩)
  · rw [cW_25, if_neg (by decide)]; exact h6
  · rw [cW_25, if_neg (by decide)]; exact h4
  · rw [cW_25, if_pos rfl]; omega
theorem addTurn_run (R : RSc r) (hv : 0 ≤ v ∧ v < 6) (h4 : 0 ≤ hi 25 v 3 ∧ hi 25 v 3 ≤ 600) (h5 : 0 ≤ hi 25 v 4 ∧ hi 25 v 4 < 300) (h6 : 0 ≤ hi 25 v 5 ∧ hi 25 v 5 < 300) (c s : Int) : R1v mX6_addTurn [.inr (some (25, v)), .inl c, .inl s] hi r (zup (cA (cW hi v c) v) 25 v (if s = 1 then 6 else 7) (hi 25 v 5 + 1)) := by
  intro P hP
  have e6 : cA (cW hi v c) v 25 v 5 = hi 25 v 5 + 1 := by rw [cA_25, if_pos rfl, cW_25, if_neg (by decide)]
  refine GX6_addTurn v c s hv (addStep_run R hv h5 c _ ⟨fun q => absurd q (by decide), fun _ => addAct_run R hv ?_ ?_ ?_ _ ⟨fun q => ?_, fun q => ?_⟩⟩)
  · rw [cW_25, if_neg (by decide)]; exact h6
  · rw [cW_25, if_neg (by decide)]; exact h4
  · rw [cW_25, if_pos rfl]; omega
  · rw [if_neg q] at hP; rw [e6]; exact hP
  · rw [if_pos q] at hP; rw [e6]; exact hP
theorem CF.move {i c c' st : Int} (h5 : hi 25 v 4 = i) (hne : c' ≠ c) (hs : 0 ≤ st ∧ st < 3) : CF hi (cA (cW hi v c') v) v i (3 * c + st) (3 * c' + st) := by
  have e1 : (3 * c + st) / 3 = c := by omega
  have e2 : (3 * c' + st) / 3 = c' := by omega
  refine ⟨fun z a1 a2 a3 a4 => (cA_k _ _ a1 a4).trans (cW_k _ _ _ a1 a2), fun z j hj => (cA_j _ _ hj).trans (cW_j _ _ _ hj), fun j => ?_, Or.inr ⟨by omega, fun j => ?_, fun s => ?_⟩⟩
  · rw [cA_k _ _ (by decide) (by decide), cW_26, h5, e2]
  · rw [cA_28, cW_6, cW_4, cW_5, h5, cW_k _ _ _ (by decide) (by decide)]
  · rw [cA_25, cW_25, cW_25, if_neg (show ¬ (5 : Int) = 4 by decide), e1, e2, h5]
    by_cases q6 : s = 5
    · rw [if_pos q6, if_neg (show ¬ s = 4 by omega), if_pos q6]
    · rw [if_neg q6]
      by_cases q5 : s = 4
      · rw [if_pos q5, if_pos q5]
      · rw [if_neg q5, if_neg q5, if_neg q6, if_neg (fun y => hne y.1)]
theorem CF.wait {i c st : Int} (h5 : hi 25 v 4 = i) (hs : 0 ≤ st ∧ st < 3) : CF hi (cW hi v c) v i (3 * c + st) (3 * c + st) := by
  have e1 : (3 * c + st) / 3 = c := by omega
  refine ⟨fun z a1 a2 a3 a4 => cW_k _ _ _ a1 a2, fun z j hj => cW_j _ _ _ hj, fun j => ?_, Or.inl ⟨rfl, fun s => ?_, ?_⟩⟩
  · rw [cW_26, h5, e1]
  · rw [cW_25, h5]
  · rw [cW_k _ _ _ (by decide) (by decide)]
theorem CF.turn {i c st : Int} (h5 : hi 25 v 4 = i) (hs : 0 ≤ st ∧ st < 2) : CF hi (zup (cA (cW hi v c) v) 25 v (if st + 1 = 1 then 6 else 7) (hi 25 v 5 + 1)) v i (3 * c + st) (3 * c + st + 1) := by
  have e1 : (3 * c + st) / 3 = c := by omega
  have e2 : (3 * c + st + 1) / 3 = c := by omega
  have e3 : (3 * c + st + 1) % 3 = st + 1 := by omega
  refine ⟨fun z a1 a2 a3 a4 => (zup_kf _ _ _ _ a1).trans ((cA_k _ _ a1 a4).trans (cW_k _ _ _ a1 a2)), fun z j hj => ?_, fun j => ?_, Or.inr ⟨by omega, fun j => ?_, fun s => ?_⟩⟩
  · funext s
    rw [zup_j _ _ _ _ _ _ hj, cA_j _ _ hj, cW_j _ _ _ hj]
  · rw [zup_kf _ _ _ _ (by decide), cA_k _ _ (by decide) (by decide), cW_26, h5, e2]
  · rw [zup_kf _ _ _ _ (by decide), cA_28, cW_6, cW_4, cW_5, h5, cW_k _ _ _ (by decide) (by decide)]
  · rw [zup_at, cA_25, cW_25, cW_25, if_neg (show ¬ (5 : Int) = 4 by decide), e1, e2, e3, h5]
    by_cases q : s = (if st + 1 = 1 then 6 else 7)
    · have q5 : s ≠ 4 := by
        rw [q]; split <;> decide
      have q6 : s ≠ 5 := by
        rw [q]; split <;> decide
      rw [if_pos q, if_neg q5, if_neg q6, if_pos ⟨rfl, q⟩]
    · rw [if_neg q]
      by_cases q6 : s = 5
      · rw [if_pos q6, if_neg (show ¬ s = 4 by omega), if_pos q6]
      · rw [if_neg q6]
        by_cases q5 : s = 4
        · rw [if_pos q5, if_pos q5]
        · rw [if_neg q5, if_neg q5, if_neg q6, if_neg (fun y => q y.2)]
/-- the class's next step -/
theorem cfol (E : FE hi r jm ln wd v a b k pk) (hv : 0 ≤ v ∧ v < 6) {i N : Nat} {c st q s0 : Int} {L : Int → Prop} (S : LyI hi ln wd ((i : Int) + 1) L) (hN : i < N ∧ N ≤ 300) (hc : 0 ≤ c ∧ c < ln * wd) (hs : 0 ≤ st ∧ st < 3) (hL : ∀ q, L q → 0 ≤ q ∧ opn k a b (pk v) (q / 3)) (h : fstc ln wd k pk v a b L (3 * c + st) q s0) (h5 : hi 25 v 4 = i) (h6 : 0 ≤ hi 25 v 5 ∧ hi 25 v 5 ≤ i) (h4 : 0 ≤ hi 25 v 3 ∧ hi 25 v 3 ≤ 600) :
    ∃ hi', CF hi hi' v i (3 * c + st) q ∧ ∀ (P : zI → Prop) u6 u7, (∀ u6 u7, WP mX4_followFirst 23 [some (.inr (some (19, 0))), some (.inl N), some (.inr (some (25, v))), some (.inl (q / 3)), some (.inl (q % 3)), some (.inl ((i : Int) + 1 + 1)), u6, u7] [] hi' r (zQ1v r P)) →
      WP mX4_followFirst 23 [some (.inr (some (19, 0))), some (.inl N), some (.inr (some (25, v))), some (.inl c), some (.inl st), some (.inl ((i : Int) + 1)), u6, u7] [] hi r (zQ1v r P) := by
  have E0 := E
  obtain ⟨R, hj, r5, ⟨w7, w11, w12⟩, m5, Y, hk⟩ := E
  have hl := Y.1
  have hw := Y.2.1
  have z1 : zInR ((i : Int) + 1 + 1) := ⟨by omega, by omega⟩
  have z2 : zInR (st + 1) := ⟨by omega, by omega⟩
  have stay := ldTo_stay (ln := ln) (wd := wd) (k := k) (a := a) (b := b) (pa := pk v) hc.1 hs
  have b5 : 0 ≤ hi 25 v 4 ∧ hi 25 v 4 < 300 := by omega
  have b6 : 0 ≤ hi 25 v 5 ∧ hi 25 v 5 < 300 := by omega
  by_cases g : 1 ≤ s0
  · -- another cell
    obtain ⟨x1, x2, x3, x4, x5, x6⟩ := fst_go Y hc hs hL h g
    have e3 : q % 3 = st := by omega
    have hqL : L (3 * (q / 3) + st) := by rw [← x2]; exact h.2.2.2.1
    refine ⟨cA (cW hi v (q / 3)) v, ?_, fun P u6 u7 hP => ?_⟩
    · have := CF.move (hi := hi) (v := v) (i := i) (c := c) (c' := q / 3) (st := st) h5 x4 hs
      rw [← x2] at this
      exact this
    · have fw := fun u4 P hP => firstWayOn_from E0 (n := (i : Int) + 1) (by omega) hs hc S x1 (by omega) hqL (by have := h.1; omega) x5 (s0 - 1).toNat 0 u4 (by omega) (by omega) P hP
      have mv : ∀ u6 u7, W0i mX4_firstWayOn [.inr (some (19, 0)), .inl ((i : Int) + 1), .inl st, .inl c] hi r (fun x' => W1v mX6_addMove [.inr (some (25, v)), .inl x'] hi r (fun hi' => zInR ((i : Int) + 1 + 1) ∧ WP mX4_followFirst 23 [some (.inr (some (19, 0))), some (.inl N), some (.inr (some (25, v))), some (.inl x'), some (.inl st), some (.inl ((i : Int) + 1 + 1)), u6, u7] [] hi' r (zQ1v r P))) := by
        intro u6 u7
        have hP' := hP u6 u7
        rw [e3] at hP'
        exact (GX4_firstWayOn _ _ _ (fw none _ (addMove_run R hv h4 b5 b6 _ _ ⟨z1, hP'⟩)))
      by_cases t : trn a b st c
      · have nl : ¬ L (3 * c + (st + 1)) := by
          rcases stay with ⟨-, w⟩ | ⟨w, -⟩
          · rw [w] at x6; rw [← Int.add_assoc]; exact x6
          · exact absurd t w
        have st2 : st < 2 := by rcases t with z | z <;> omega
        have fT : zInR (st + 1) ∧ W0i mX4_isReached [.inr (some (19, 0)), .inl ((i : Int) + 1), .inl (st + 1), .inl c] hi r (fun y => (y ≠ 0 → W1v mX6_addTurn [.inr (some (25, v)), .inl c, .inl (st + 1)] hi r (fun hi' => zInR ((i : Int) + 1 + 1) ∧ WP mX4_followFirst 23 [some (.inr (some (19, 0))), some (.inl N), some (.inr (some (25, v))), some (.inl c), some (.inl (st + 1)), some (.inl ((i : Int) + 1 + 1)), some (.inl 1), some (.inl (st + 1))] [] hi' r (zQ1v r P))) ∧ (y = 0 → W0i mX4_firstWayOn [.inr (some (19, 0)), .inl ((i : Int) + 1), .inl st, .inl c] hi r (fun x' => W1v mX6_addMove [.inr (some (25, v)), .inl x'] hi r (fun hi' => zInR ((i : Int) + 1 + 1) ∧ WP mX4_followFirst 23 [some (.inr (some (19, 0))), some (.inl N), some (.inr (some (25, v))), some (.inl x'), some (.inl st), some (.inl ((i : Int) + 1 + 1)), some (.inl 1), some (.inl (st + 1))] [] hi' r (zQ1v r P))))) :=
          ⟨z2, (isReached_run R w7 hw hl.2 (by omega) (by omega) hc S 0 (Or.inr ⟨rfl, nl⟩) _ ⟨fun y => absurd rfl y, fun _ => mv _ _⟩)⟩
        refine GX4_followFirst_23 N v c st _ u6 u7 hv ⟨fun y => absurd y (by omega), fun _ => ⟨fun y0 => ⟨fun y1 => ?_, fun y1 => ⟨fun y => ?_, fun _ => fT⟩⟩, fun y0 => ⟨fun _ => fT, fun y => ?_⟩⟩⟩
        · exfalso; rcases t with z | z <;> omega
        · exfalso; rcases t with z | z
          · omega
          · exact y (z.2.trans w12.symm)
        · exfalso; rcases t with z | z
          · exact y (z.2.trans w11.symm)
          · omega
      · have nl : ¬ L (3 * c + st) := by
          rcases stay with ⟨w, -⟩ | ⟨-, w⟩
          · exact absurd w t
          · rw [w] at x6; exact x6
        have fW : W0i mX4_isReached [.inr (some (19, 0)), .inl ((i : Int) + 1), .inl st, .inl c] hi r (fun y => (y ≠ 0 → W1v mX6_addWait [.inr (some (25, v)), .inl c] hi r (fun hi' => zInR ((i : Int) + 1 + 1) ∧ WP mX4_followFirst 23 [some (.inr (some (19, 0))), some (.inl N), some (.inr (some (25, v))), some (.inl c), some (.inl st), some (.inl ((i : Int) + 1 + 1)), some (.inl 0), some (.inl st)] [] hi' r (zQ1v r P))) ∧ (y = 0 → W0i mX4_firstWayOn [.inr (some (19, 0)), .inl ((i : Int) + 1), .inl st, .inl c] hi r (fun x' => W1v mX6_addMove [.inr (some (25, v)), .inl x'] hi r (fun hi' => zInR ((i : Int) + 1 + 1) ∧ WP mX4_followFirst 23 [some (.inr (some (19, 0))), some (.inl N), some (.inr (some (25, v))), some (.inl x'), some (.inl st), some (.inl ((i : Int) + 1 + 1)), some (.inl 0), some (.inl st)] [] hi' r (zQ1v r P))))) :=
          (isReached_run R w7 hw hl.2 (by omega) hs hc S 0 (Or.inr ⟨rfl, nl⟩) _ ⟨fun y => absurd rfl y, fun _ => mv _ _⟩)
        refine GX4_followFirst_23 N v c st _ u6 u7 hv ⟨fun y => absurd y (by omega), fun _ => ⟨fun y0 => ⟨fun y1 => fW, fun y1 => ⟨fun y => fW, fun y => ?_⟩⟩, fun y0 => ⟨fun y => ?_, fun y => ⟨fun _ => fW, fun y1 => absurd y1 (by omega)⟩⟩⟩⟩
        · exact absurd (Or.inr ⟨y1, y.trans w12⟩) t
        · exact absurd (Or.inl ⟨y0, y.trans w11⟩) t
  · have s00 : s0 = 0 := by have := h.1; omega
    obtain ⟨-, e0, -, hqL, -⟩ := h
    rw [s00] at e0
    by_cases t : trn a b st c
    · have eq : q = 3 * c + st + 1 := by
        rcases stay with ⟨-, w⟩ | ⟨w, -⟩
        · exact e0.symm.trans w
        · exact absurd t w
      have st2 : st < 2 := by rcases t with z | z <;> omega
      subst eq
      refine ⟨_, CF.turn h5 ⟨hs.1, st2⟩, fun P u6 u7 hP => ?_⟩
      have e1 : (3 * c + st + 1) / 3 = c := by omega
      have e2 : (3 * c + st + 1) % 3 = st + 1 := by omega
      rw [e1, e2] at hP
      have fT : zInR (st + 1) ∧ W0i mX4_isReached [.inr (some (19, 0)), .inl ((i : Int) + 1), .inl (st + 1), .inl c] hi r (fun y => (y ≠ 0 → W1v mX6_addTurn [.inr (some (25, v)), .inl c, .inl (st + 1)] hi r (fun hi' => zInR ((i : Int) + 1 + 1) ∧ WP mX4_followFirst 23 [some (.inr (some (19, 0))), some (.inl N), some (.inr (some (25, v))), some (.inl c), some (.inl (st + 1)), some (.inl ((i : Int) + 1 + 1)), some (.inl 1), some (.inl (st + 1))] [] hi' r (zQ1v r P))) ∧ (y = 0 → W0i mX4_firstWayOn [.inr (some (19, 0)), .inl ((i : Int) + 1), .inl st, .inl c] hi r (fun x' => W1v mX6_addMove [.inr (some (25, v)), .inl x'] hi r (fun hi' => zInR ((i : Int) + 1 + 1) ∧ WP mX4_followFirst 23 [some (.inr (some (19, 0))), some (.inl N), some (.inr (some (25, v))), some (.inl x'), some (.inl st), some (.inl ((i : Int) + 1 + 1)), some (.inl 1), some (.inl (st + 1))] [] hi' r (zQ1v r P))))) :=
        ⟨z2, (isReached_run R w7 hw hl.2 (by omega) (by omega) hc S 1 (Or.inl ⟨rfl, by rw [← Int.add_assoc]; exact hqL⟩) _ ⟨fun _ => addTurn_run R hv h4 b5 b6 c (st + 1) _ ⟨z1, hP _ _⟩, fun y => absurd y (by decide)⟩)⟩
      refine GX4_followFirst_23 N v c st _ u6 u7 hv ⟨fun y => absurd y (by omega), fun _ => ⟨fun y0 => ⟨fun y1 => ?_, fun y1 => ⟨fun y => ?_, fun _ => fT⟩⟩, fun y0 => ⟨fun _ => fT, fun y => ?_⟩⟩⟩
      · exfalso; rcases t with z | z <;> omega
      · exfalso; rcases t with z | z
        · omega
        · exact y (z.2.trans w12.symm)
      · exfalso; rcases t with z | z
        · exact y (z.2.trans w11.symm)
        · omega
    · have eq : q = 3 * c + st := by
        rcases stay with ⟨w, -⟩ | ⟨-, w⟩
        · exact absurd w t
        · exact e0.symm.trans w
      subst eq
      refine ⟨_, CF.wait h5 hs, fun P u6 u7 hP => ?_⟩
      have e1 : (3 * c + st) / 3 = c := by omega
      have e2 : (3 * c + st) % 3 = st := by omega
      rw [e1, e2] at hP
      have fW : W0i mX4_isReached [.inr (some (19, 0)), .inl ((i : Int) + 1), .inl st, .inl c] hi r (fun y => (y ≠ 0 → W1v mX6_addWait [.inr (some (25, v)), .inl c] hi r (fun hi' => zInR ((i : Int) + 1 + 1) ∧ WP mX4_followFirst 23 [some (.inr (some (19, 0))), some (.inl N), some (.inr (some (25, v))), some (.inl c), some (.inl st), some (.inl ((i : Int) + 1 + 1)), some (.inl 0), some (.inl st)] [] hi' r (zQ1v r P))) ∧ (y = 0 → W0i mX4_firstWayOn [.inr (some (19, 0)), .inl ((i : Int) + 1), .inl st, .inl c] hi r (fun x' => W1v mX6_addMove [.inr (some (25, v)), .inl x'] hi r (fun hi' => zInR ((i : Int) + 1 + 1) ∧ WP mX4_followFirst 23 [some (.inr (some (19, 0))), some (.inl N), some (.inr (some (25, v))), some (.inl x'), some (.inl st), some (.inl ((i : Int) + 1 + 1)), some (.inl 0), some (.inl st)] [] hi' r (zQ1v r P))))) :=
        (isReached_run R w7 hw hl.2 (by omega) hs hc S 1 (Or.inl ⟨rfl, hqL⟩) _ ⟨fun _ => GX6_addWait v c hv (addStep_run R hv b5 c _ ⟨z1, hP _ _⟩), fun y => absurd y (by decide)⟩)
      refine GX4_followFirst_23 N v c st _ u6 u7 hv ⟨fun y => absurd y (by omega), fun _ => ⟨fun y0 => ⟨fun y1 => fW, fun y1 => ⟨fun y => fW, fun y => ?_⟩⟩, fun y0 => ⟨fun y => ?_, fun y => ⟨fun _ => fW, fun y1 => absurd y1 (by omega)⟩⟩⟩⟩
      · exact absurd (Or.inr ⟨y1, y.trans w12⟩) t
      · exact absurd (Or.inl ⟨y0, y.trans w11⟩) t
end ZP
