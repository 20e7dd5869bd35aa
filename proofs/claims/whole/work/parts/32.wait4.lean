section ZS
variable {hi : zI} {hr : zR}
/-- the first's act -/
def faW (nx : Int → Int) (f : Int) : Int := if f = -1 then -1 else nx f
theorem fwF_range {nx mo : Int → Int} : ∀ n : Nat, (fwF nx mo n).1 = -1 ∨ (0 ≤ (fwF nx mo n).1 ∧ (fwF nx mo n).1 < n ∧ nx (fwF nx mo n).1 ≠ 0 ∧ (fwF nx mo n).2 = mo (fwF nx mo n).1) := by
  intro n
  induction n with
  | zero => exact Or.inl rfl
  | succ n ih =>
    have up : fwF nx mo (n + 1) = if nx n = 0 then fwF nx mo n else if (fwF nx mo n).1 = -1 ∨ mo n < (fwF nx mo n).2 then ((n : Int), mo n) else fwF nx mo n := rfl
    rw [up]
    by_cases h : nx n = 0
    · rw [if_pos h]
      rcases ih with a | ⟨a, b, c, d⟩
      · exact Or.inl a
      · exact Or.inr ⟨a, by omega, c, d⟩
    · rw [if_neg h]
      by_cases g : (fwF nx mo n).1 = -1 ∨ mo n < (fwF nx mo n).2
      · rw [if_pos g]
        exact Or.inr ⟨by show (0 : Int) ≤ n; omega, by show (n : Int) < _; omega, h, rfl⟩
      · rw [if_neg g]
        rcases ih with a | ⟨a, b, c, d⟩
        · exact Or.inl a
        · exact Or.inr ⟨a, by omega, c, d⟩
theorem waitFor_out (hM : RSm hr) {c vn : Int} (hc : c ≠ -1) (hw : WtM vn (hi 54 0) (hi 55 0) (hi 56 0) (hi 75 0) (hi 76 0) (hi 77 0)) (hvn : hi 37 0 10 = vn) : ∀ (k v : Nat) (u : Option zV), (v : Int) + k = vn → 0 ≤ smI (ctW (hi 54 0) (hi 55 0) (hi 75 0) (hi 76 0) (hi 77 0) c) v → smI (ctW (hi 54 0) (hi 55 0) (hi 75 0) (hi 76 0) (hi 77 0) c) v ≤ 300 * v →
    ∀ P : zI → Prop, P (wtS hi (smI (ctW (hi 54 0) (hi 55 0) (hi 75 0) (hi 76 0) (hi 77 0) c) vn.toNat) (fwW (hi 54 0) (hi 55 0) (hi 56 0) (hi 75 0) (hi 76 0) (hi 77 0) c vn.toNat).1 (faW (nxW (hi 54 0) (hi 55 0) (hi 75 0) (hi 76 0) (hi 77 0) c) (fwW (hi 54 0) (hi 55 0) (hi 56 0) (hi 75 0) (hi 76 0) (hi 77 0) c vn.toNat).1)) →
      WP mX12_waitFor 17 [some (.inr (some (37, 0))), some (.inl c), some (.inl (v : Int)), u] [] (wtS hi (smI (ctW (hi 54 0) (hi 55 0) (hi 75 0) (hi 76 0) (hi 77 0) c) v) (fwW (hi 54 0) (hi 55 0) (hi 56 0) (hi 75 0) (hi 76 0) (hi 77 0) c v).1 (faW (nxW (hi 54 0) (hi 55 0) (hi 75 0) (hi 76 0) (hi 77 0) c) (fwW (hi 54 0) (hi 55 0) (hi 56 0) (hi 75 0) (hi 76 0) (hi 77 0) c v).1)) hr (zQ1v hr P) := by
  intro k
  induction k with
  | zero =>
    intro v u hk h0 h1 P hP
    refine GX12_waitFor_17 c v u ⟨fun _ => ?_, fun q => ?_⟩
    · rw [show vn.toNat = v by omega] at hP
      exact hP
    · rw [wtS_s _ _ _ _ (by decide) (by decide) (by decide), hvn] at q
      exact absurd q (by omega)
  | succ k ih =>
    intro v u hk h0 h1 P hP
    refine GX12_waitFor_17 c v u ⟨fun q => ?_, fun _ => ?_⟩
    · rw [wtS_s _ _ _ _ (by decide) (by decide) (by decide), hvn] at q
      exact absurd q (by omega)
    · obtain ⟨g1, g2, g3, g4, g5⟩ := hw.2.2 v (by omega) (by omega)
      have hv6 := hw.2.1
      have hfp := fnoF_pos (fun i => hi 55 0 (301 * (v : Int) + i)) (kn := knF (hi 75 0) (hi 76 0) (hi 77 0) v) g1
      have hcb := ctA_b (fun i => hi 55 0 (301 * (v : Int) + i)) c (hi 54 0 v + 1 - fnoF (fun i => hi 55 0 (301 * (v : Int) + i)) (hi 54 0 v) (knF (hi 75 0) (hi 76 0) (hi 77 0) v)).toNat (fnoF (fun i => hi 55 0 (301 * (v : Int) + i)) (hi 54 0 v) (knF (hi 75 0) (hi 76 0) (hi 77 0) v))
      have hcw : 0 ≤ ctW (hi 54 0) (hi 55 0) (hi 75 0) (hi 76 0) (hi 77 0) c v ∧ ctW (hi 54 0) (hi 55 0) (hi 75 0) (hi 76 0) (hi 77 0) c v ≤ 300 := by
        unfold ctW
        omega
      have hmx : max 1 (fnoF (fun i => hi 55 0 (301 * (v : Int) + i)) (hi 54 0 v) (knF (hi 75 0) (hi 76 0) (hi 77 0) v)) = fnoF (fun i => hi 55 0 (301 * (v : Int) + i)) (hi 54 0 v) (knF (hi 75 0) (hi 76 0) (hi 77 0) v) := by omega
      have fr := fwF_range (nx := nxW (hi 54 0) (hi 55 0) (hi 75 0) (hi 76 0) (hi 77 0) c) (mo := fun v => hi 56 0 (301 * v + nxW (hi 54 0) (hi 55 0) (hi 75 0) (hi 76 0) (hi 77 0) c v)) v
      refine waitFor_in hM (w1 := smI (ctW (hi 54 0) (hi 55 0) (hi 75 0) (hi 76 0) (hi 77 0) c) (v + 1)) (f1 := (fwW (hi 54 0) (hi 55 0) (hi 56 0) (hi 75 0) (hi 76 0) (hi 77 0) c (v + 1)).1) (a1 := faW (nxW (hi 54 0) (hi 55 0) (hi 75 0) (hi 76 0) (hi 77 0) c) (fwW (hi 54 0) (hi 55 0) (hi 56 0) (hi 75 0) (hi 76 0) (hi 77 0) c (v + 1)).1) hc (by omega) ⟨g1, g2⟩ ⟨g3, g4⟩ g5 none ?_ (hi 54 0 v).toNat 1 _ _ _ (by omega) (by omega) h0 (by omega) ?_ ?_ ?_
      · intro u2
        have e : smI (ctW (hi 54 0) (hi 55 0) (hi 75 0) (hi 76 0) (hi 77 0) c) (v + 1) = smI (ctW (hi 54 0) (hi 55 0) (hi 75 0) (hi 76 0) (hi 77 0) c) v + ctW (hi 54 0) (hi 55 0) (hi 75 0) (hi 76 0) (hi 77 0) c v := rfl
        exact ih (v + 1) u2 (by omega) (by omega) (by omega) P hP
      · unfold fwW
        rcases fr with a | ⟨a, b, d, e⟩
        · exact Or.inl a
        · refine Or.inr ⟨a, by omega, ?_⟩
          unfold faW
          rw [if_neg (by omega)]
          obtain ⟨z1, z2, -⟩ := hw.2.2 _ a (by omega)
          rcases nxW_spec hw a (by omega) c with q | ⟨q1, q2, -⟩
          · exact absurd q d
          · omega
      · rw [hmx]
        rfl
      · rw [hmx]
        show ((fwW (hi 54 0) (hi 55 0) (hi 56 0) (hi 75 0) (hi 76 0) (hi 77 0) c (v + 1)).1, _) = if nxW (hi 54 0) (hi 55 0) (hi 75 0) (hi 76 0) (hi 77 0) c v = 0 then _ else if _ ∨ hi 56 0 (301 * v + nxW (hi 54 0) (hi 55 0) (hi 75 0) (hi 76 0) (hi 77 0) c v) < _ then ((v : Int), nxW (hi 54 0) (hi 55 0) (hi 75 0) (hi 76 0) (hi 77 0) c v) else _
        have up : fwW (hi 54 0) (hi 55 0) (hi 56 0) (hi 75 0) (hi 76 0) (hi 77 0) c (v + 1) = if nxW (hi 54 0) (hi 55 0) (hi 75 0) (hi 76 0) (hi 77 0) c v = 0 then fwW (hi 54 0) (hi 55 0) (hi 56 0) (hi 75 0) (hi 76 0) (hi 77 0) c v else if (fwW (hi 54 0) (hi 55 0) (hi 56 0) (hi 75 0) (hi 76 0) (hi 77 0) c v).1 = -1 ∨ hi 56 0 (301 * v + nxW (hi 54 0) (hi 55 0) (hi 75 0) (hi 76 0) (hi 77 0) c v) < (fwW (hi 54 0) (hi 55 0) (hi 56 0) (hi 75 0) (hi 76 0) (hi 77 0) c v).2 then ((v : Int), hi 56 0 (301 * v + nxW (hi 54 0) (hi 55 0) (hi 75 0) (hi 76 0) (hi 77 0) c v)) else fwW (hi 54 0) (hi 55 0) (hi 56 0) (hi 75 0) (hi 76 0) (hi 77 0) c v := rfl
        rw [up]
        by_cases q : nxW (hi 54 0) (hi 55 0) (hi 75 0) (hi 76 0) (hi 77 0) c v = 0
        · rw [if_pos q, if_pos q]
        · rw [if_neg q, if_neg q]
          have hcond : ((fwW (hi 54 0) (hi 55 0) (hi 56 0) (hi 75 0) (hi 76 0) (hi 77 0) c v).1 = -1 ∨ hi 56 0 (301 * v + nxW (hi 54 0) (hi 55 0) (hi 75 0) (hi 76 0) (hi 77 0) c v) < hi 56 0 (301 * (fwW (hi 54 0) (hi 55 0) (hi 56 0) (hi 75 0) (hi 76 0) (hi 77 0) c v).1 + faW (nxW (hi 54 0) (hi 55 0) (hi 75 0) (hi 76 0) (hi 77 0) c) (fwW (hi 54 0) (hi 55 0) (hi 56 0) (hi 75 0) (hi 76 0) (hi 77 0) c v).1)) ↔ ((fwW (hi 54 0) (hi 55 0) (hi 56 0) (hi 75 0) (hi 76 0) (hi 77 0) c v).1 = -1 ∨ hi 56 0 (301 * v + nxW (hi 54 0) (hi 55 0) (hi 75 0) (hi 76 0) (hi 77 0) c v) < (fwW (hi 54 0) (hi 55 0) (hi 56 0) (hi 75 0) (hi 76 0) (hi 77 0) c v).2) := by
            rcases fr with a | ⟨a, b, d, e⟩
            · exact ⟨fun _ => Or.inl a, fun _ => Or.inl a⟩
            · have e2 : (fwW (hi 54 0) (hi 55 0) (hi 56 0) (hi 75 0) (hi 76 0) (hi 77 0) c v).2 = hi 56 0 (301 * (fwW (hi 54 0) (hi 55 0) (hi 56 0) (hi 75 0) (hi 76 0) (hi 77 0) c v).1 + faW (nxW (hi 54 0) (hi 55 0) (hi 75 0) (hi 76 0) (hi 77 0) c) (fwW (hi 54 0) (hi 55 0) (hi 56 0) (hi 75 0) (hi 76 0) (hi 77 0) c v).1) := by
                unfold fwW faW
                rw [if_neg (by omega)]
                exact e
              rw [e2]
          by_cases g : (fwW (hi 54 0) (hi 55 0) (hi 56 0) (hi 75 0) (hi 76 0) (hi 77 0) c v).1 = -1 ∨ hi 56 0 (301 * v + nxW (hi 54 0) (hi 55 0) (hi 75 0) (hi 76 0) (hi 77 0) c v) < (fwW (hi 54 0) (hi 55 0) (hi 56 0) (hi 75 0) (hi 76 0) (hi 77 0) c v).2
          · rw [if_pos g]
            refine Eq.trans ?_ (if_pos (hcond.mpr g)).symm
            show ((v : Int), faW _ (v : Int)) = _
            unfold faW
            rw [if_neg (by omega)]
          · rw [if_neg g]
            exact (if_neg (fun x => g (hcond.mp x))).symm
theorem waitFor_run (hM : RSm hr) {c vn : Int} (hc : c ≠ -1) (hw : WtM vn (hi 54 0) (hi 55 0) (hi 56 0) (hi 75 0) (hi 76 0) (hi 77 0)) (hvn : hi 37 0 10 = vn) : R1v mX12_waitFor [.inr (some (37, 0)), .inl c] hi hr (wtS hi (smI (ctW (hi 54 0) (hi 55 0) (hi 75 0) (hi 76 0) (hi 77 0) c) vn.toNat) (fwW (hi 54 0) (hi 55 0) (hi 56 0) (hi 75 0) (hi 76 0) (hi 77 0) c vn.toNat).1 (faW (nxW (hi 54 0) (hi 55 0) (hi 75 0) (hi 76 0) (hi 77 0) c) (fwW (hi 54 0) (hi 55 0) (hi 56 0) (hi 75 0) (hi 76 0) (hi 77 0) c vn.toNat).1)) := by
  intro P hP
  refine GX12_waitFor c ?_
  rw [wtS_0]
  exact waitFor_out hM hc hw hvn vn.toNat 0 none (by have := hw.1; omega) (by simp [smI]) (by simp [smI]) P hP
end ZS
