/-- what the reference's search stands on -/
def ME (hi : zI) (ln wd vn v a b t0 : Int) (k pk tr tb te : Int → Int) : Prop :=
  (hi 37 0 5 = ln ∧ hi 37 0 6 = wd ∧ hi 37 0 10 = vn) ∧ (hi 39 0 = k ∧ hi 42 0 = pk ∧ hi 51 0 = tr ∧ hi 52 0 = tb ∧ hi 53 0 = te) ∧ (1 ≤ vn ∧ vn ≤ 6) ∧ (0 ≤ v ∧ v < vn) ∧ (0 ≤ t0 ∧ t0 ≤ 600) ∧ Yd ln wd k a b (pk v) ∧ (∀ u, 0 ≤ u → u < vn → te u = -1 ∨ (0 ≤ tb u ∧ tb u ≤ 600 ∧ tb u ≤ te u ∧ te u ≤ tb u + 300))
def fdE (m m' : zI) : Prop := ∀ q, q ≠ 57 → q ≠ 58 → m' q = m q
theorem fdE.refl (m : zI) : fdE m m := fun _ _ _ => rfl
theorem fdE.trans {a b c : zI} (h : fdE a b) (h' : fdE b c) : fdE a c := fun q x y => (h' q x y).trans (h q x y)
theorem fdE.z57 {m m' : zI} (h : fdE m m') (s x : Int) : fdE m (zup m' 57 0 s x) := fun q a b => (zup_kf _ _ _ _ a).trans (h q a b)
theorem fdE.z58 {m m' : zI} (h : fdE m m') (s x : Int) : fdE m (zup m' 58 0 s x) := fun q a b => (zup_kf _ _ _ _ b).trans (h q a b)
section ZP
variable {ln wd vn v a b t0 : Int} {k pk tr tb te : Int → Int} {r : zR}
theorem ME.keep {m m' : zI} (h : ME m ln wd vn v a b t0 k pk tr tb te) (e : fdE m m') : ME m' ln wd vn v a b t0 k pk tr tb te := by
  unfold ME at h ⊢
  rw [e 37 (by decide) (by decide), e 39 (by decide) (by decide), e 42 (by decide) (by decide), e 51 (by decide) (by decide), e 52 (by decide) (by decide), e 53 (by decide) (by decide)]
  exact h
theorem isClear_from {m : zI} (hM : RSm r) (E : ME m ln wd vn v a b t0 k pk tr tb te) {t here there : Int} (ht : 0 ≤ t ∧ t ≤ 2000) : ∀ (n : Nat) (u : Int) (u6 u7 : Option zV), u + n = vn → 0 ≤ u → (∀ u', 0 ≤ u' → u' < u → u' ≠ v → tAt pk tr tb te u' t ≠ there ∧ tAt pk tr tb te u' (t + 1) ≠ there ∧ tAt pk tr tb te u' (t + 1) ≠ here) →
    ∃ x, ((x = 1 ∧ clr vn pk tr tb te v t here there) ∨ (x = 0 ∧ ¬ clr vn pk tr tb te v t here there)) ∧ ∀ P : Int → Prop, P x → WP mX12_isClear 3 [some (.inr (some (37, 0))), some (.inl v), some (.inl t), some (.inl here), some (.inl there), some (.inl u), u6, u7] [] m r (zQ0i m r P) := by
  intro n
  obtain ⟨⟨e5, e6, e10⟩, ⟨ek, ep, e51, e52, e53⟩, hvn, hv, ht0, Y, hte⟩ := E
  subst ep e51 e52 e53
  induction n with
  | zero =>
    intro u u6 u7 hn h0 h
    have : u = vn := by omega
    subst this
    exact ⟨1, Or.inl ⟨rfl, h⟩, fun P hP => GX12_isClear_3 v t here there u u6 u7 ⟨fun _ => hP, fun q => absurd q (by omega)⟩⟩
  | succ n ih =>
    intro u u6 u7 hn h0 h
    have z1 : zInR (u + 1) := ⟨by omega, by omega⟩
    have zt : zInR (t + 1) := ⟨by omega, by omega⟩
    by_cases q : u = v
    · obtain ⟨x, x1, x2⟩ := ih (u + 1) u6 u7 (by omega) (by omega) (fun u' a0 a1 a2 => h u' a0 (by omega) a2)
      exact ⟨x, x1, fun P hP => GX12_isClear_3 v t here there u u6 u7 ⟨fun z => absurd z (by omega), fun _ => ⟨fun z => absurd q z, fun _ => ⟨z1, x2 P hP⟩⟩⟩⟩
    · have g1 := tripAt_run (hi := m) hM (v := u) (t := t) (by omega) ht.1 (hte u h0 (by omega))
      have g2 := tripAt_run (hi := m) hM (v := u) (t := t + 1) (by omega) (by omega) (hte u h0 (by omega))
      by_cases q1 : tAt (m 42 0) (m 51 0) (m 52 0) (m 53 0) u t = there
      · exact ⟨0, Or.inr ⟨rfl, fun z => (z u h0 (by omega) q).1 q1⟩, fun P hP => GX12_isClear_3 v t here there u u6 u7 ⟨fun z => absurd z (by omega), fun _ => ⟨fun _ => g1 _ ⟨zt, g2 _ ⟨fun _ => hP, fun z => absurd q1 z⟩⟩, fun z => absurd z q⟩⟩⟩
      · by_cases q2 : tAt (m 42 0) (m 51 0) (m 52 0) (m 53 0) u (t + 1) = there
        · exact ⟨0, Or.inr ⟨rfl, fun z => (z u h0 (by omega) q).2.1 q2⟩, fun P hP => GX12_isClear_3 v t here there u u6 u7 ⟨fun z => absurd z (by omega), fun _ => ⟨fun _ => g1 _ ⟨zt, g2 _ ⟨fun z => absurd z q1, fun _ => ⟨fun _ => hP, fun z => absurd q2 z⟩⟩⟩, fun z => absurd z q⟩⟩⟩
        · by_cases q3 : tAt (m 42 0) (m 51 0) (m 52 0) (m 53 0) u (t + 1) = here
          · exact ⟨0, Or.inr ⟨rfl, fun z => (z u h0 (by omega) q).2.2 q3⟩, fun P hP => GX12_isClear_3 v t here there u u6 u7 ⟨fun z => absurd z (by omega), fun _ => ⟨fun _ => g1 _ ⟨zt, g2 _ ⟨fun z => absurd z q1, fun _ => ⟨fun z => absurd z q2, fun _ => ⟨fun z => absurd q3 z, fun _ => hP⟩⟩⟩⟩, fun z => absurd z q⟩⟩⟩
          · obtain ⟨x, x1, x2⟩ := ih (u + 1) (some (.inl (tAt (m 42 0) (m 51 0) (m 52 0) (m 53 0) u t))) (some (.inl (tAt (m 42 0) (m 51 0) (m 52 0) (m 53 0) u (t + 1)))) (by omega) (by omega) (fun u' a0 a1 a2 => by
              by_cases z : u' = u
              · rw [z]; exact ⟨q1, q2, q3⟩
              · exact h u' a0 (by omega) a2)
            exact ⟨x, x1, fun P hP => GX12_isClear_3 v t here there u u6 u7 ⟨fun z => absurd z (by omega), fun _ => ⟨fun _ => g1 _ ⟨zt, g2 _ ⟨fun z => absurd z q1, fun _ => ⟨fun z => absurd z q2, fun _ => ⟨fun _ => ⟨z1, x2 P hP⟩, fun z => absurd z q3⟩⟩⟩⟩, fun z => absurd z q⟩⟩⟩
theorem isClear_run {m : zI} (hM : RSm r) (E : ME m ln wd vn v a b t0 k pk tr tb te) {t here there : Int} (ht : 0 ≤ t ∧ t ≤ 2000) : ∃ x, ((x = 1 ∧ clr vn pk tr tb te v t here there) ∨ (x = 0 ∧ ¬ clr vn pk tr tb te v t here there)) ∧ R0i mX12_isClear [.inr (some (37, 0)), .inl v, .inl t, .inl here, .inl there] m r x := by
  have hvn := E.2.2.1
  obtain ⟨x, x1, x2⟩ := isClear_from hM E ht vn.toNat 0 none none (by omega) (by omega) (fun u' a0 a1 => by omega)
  exact ⟨x, x1, fun P hP => GX12_isClear v t here there (x2 P hP)⟩
theorem nbr_bd {i d : Int} (hl : 1 ≤ ln) (hw : 1 ≤ wd) : nbr ln wd k i d = -1 ∨ (0 ≤ nbr ln wd k i d ∧ nbr ln wd k i d < ln * wd) := by
  unfold nbr
  dsimp only
  generalize i / wd + (if d = 0 then -1 else if d = 2 then 1 else 0) = y
  generalize i % wd + (if d = 1 then 1 else if d = 3 then -1 else 0) = x
  by_cases q : y < 0 ∨ ln ≤ y ∨ x < 0 ∨ wd ≤ x ∨ k (y * wd + x) = 0
  · rw [if_pos q]; exact Or.inl rfl
  · rw [if_neg q]
    exact Or.inr (gc_in (by omega) (by omega) (by omega) (by omega))
theorem yd_256 (Y : Yd ln wd k a b (pk v)) : 1 ≤ ln * wd ∧ ln * wd ≤ 256 := by
  have h := Int.mul_le_mul Y.1.2 Y.2.1.2 (by have := Y.2.1.1; omega) (by omega)
  have := Y.2.2.2.1
  omega
theorem leadsTo_run {m : zI} (hM : RSm r) (E : ME m ln wd vn v a b t0 k pk tr tb te) {p s : Int} (hp : 0 ≤ p ∧ p < 768) (hs : 0 ≤ s ∧ s < 5) : R0i mX12_leadsTo [.inr (some (37, 0)), .inl v, .inl a, .inl b, .inl p, .inl s] m r (ldTo ln wd k a b (pk v) p s) := by
  intro P hP
  obtain ⟨⟨e5, e6, e10⟩, ⟨ek, ep, e51, e52, e53⟩, hvn, hv, ht0, Y, hte⟩ := E
  have y2 := yd_256 Y
  obtain ⟨hl, hw, -⟩ := Y
  have vv : m 42 0 v = pk v := by rw [ep]
  have kk : ∀ c, m 39 0 c = k c := fun c => by rw [ek]
  -- behind the way, by where it leads
  have key : ∀ there : Int, there = (if s = 0 then p / 3 else nbr ln wd k (p / 3) (s - 1)) → (there = -1 ∨ (0 ≤ there ∧ there < 256)) →
      WP mX12_leadsTo 32 [some (.inr (some (37, 0))), some (.inl v), some (.inl a), some (.inl b), some (.inl p), some (.inl s), some (.inl (p / 3)), some (.inl (p % 3)), none] [.inl there] m r (zQ0i m r P) := by
    intro there et bd
    unfold ldTo at hP
    dsimp only at hP
    rw [← et] at hP
    by_cases q : there = -1
    · rw [if_pos q] at hP
      exact GX12_leadsTo_32 hM v a b p s _ _ there ⟨fun z => absurd q z, fun _ => hP⟩
    · rw [if_neg q] at hP
      have tb : 0 ≤ there ∧ there < 512 := by omega
      by_cases q2 : s ≠ 0 ∧ 2 ≤ k there ∧ there ≠ a ∧ there ≠ b ∧ there ≠ pk v
      · rw [if_pos q2] at hP
        refine GX12_leadsTo_32 hM v a b p s _ _ there ⟨fun _ => ⟨fun z => absurd z (by omega), fun _ => ⟨tb, fun z => ?_, fun _ => ⟨fun z => absurd z q2.2.2.1, fun _ => ⟨fun z => absurd z q2.2.2.2.1, fun _ => ⟨by omega, fun z => ?_, fun _ => hP⟩⟩⟩⟩⟩, fun z => absurd z q⟩
        · rw [kk] at z; omega
        · rw [vv] at z; exact absurd z q2.2.2.2.2
      · rw [if_neg q2] at hP
        have e83 : WP mX12_leadsTo 83 [some (.inr (some (37, 0))), some (.inl v), some (.inl a), some (.inl b), some (.inl p), some (.inl s), some (.inl (p / 3)), some (.inl (p % 3)), some (.inl there)] [] m r (zQ0i m r P) := by
          have m3 : 0 ≤ p % 3 ∧ p % 3 < 3 := by omega
          refine GX12_leadsTo_83 v a b p s _ _ there ⟨fun z => ?_, fun z => ⟨fun z2 => ?_, fun z2 => ⟨fun z3 => ?_, fun z3 => ?_⟩⟩⟩
          · rw [if_neg (fun y => z y.1), if_neg (fun y => z y.1)] at hP
            exact GX12_leadsTo_105 v a b p s _ _ there ⟨fun _ => GX12_leadsTo_125 v a b p s _ _ there ⟨⟨by omega, by omega⟩, ⟨by omega, by omega⟩, hP⟩, fun y => absurd y z⟩
          · rw [if_neg (fun y => z2 y.2.1)] at hP
            refine GX12_leadsTo_105 v a b p s _ _ there ⟨fun y => absurd z y, fun _ => ⟨fun y => ?_, fun y => ⟨fun y2 => ?_, fun y2 => ?_⟩⟩⟩
            · rw [if_neg (fun w => y w.2.1)] at hP
              exact GX12_leadsTo_125 v a b p s _ _ there ⟨⟨by omega, by omega⟩, ⟨by omega, by omega⟩, hP⟩
            · rw [if_neg (fun w => y2 w.2.2)] at hP
              exact GX12_leadsTo_125 v a b p s _ _ there ⟨⟨by omega, by omega⟩, ⟨by omega, by omega⟩, hP⟩
            · rw [if_pos ⟨z, y, y2⟩] at hP
              exact GX12_leadsTo_125 v a b p s _ _ there ⟨⟨by omega, by omega⟩, ⟨by omega, by omega⟩, hP⟩
          · rw [if_neg (fun w => z3 w.2.2), if_neg (fun w => by omega)] at hP
            exact GX12_leadsTo_105 v a b p s _ _ there ⟨fun y => absurd z y, fun _ => ⟨fun _ => GX12_leadsTo_125 v a b p s _ _ there ⟨⟨by omega, by omega⟩, ⟨by omega, by omega⟩, hP⟩, fun y => absurd y (by omega)⟩⟩
          · rw [if_pos ⟨z, z2, z3⟩] at hP
            exact GX12_leadsTo_125 v a b p s _ _ there ⟨⟨by omega, by omega⟩, ⟨by omega, by omega⟩, hP⟩
        refine GX12_leadsTo_32 hM v a b p s _ _ there ⟨fun _ => ⟨fun _ => e83, fun z => ⟨tb, fun _ => e83, fun z2 => ⟨fun _ => e83, fun z3 => ⟨fun _ => e83, fun z4 => ⟨by omega, fun _ => e83, fun z5 => ?_⟩⟩⟩⟩⟩, fun z => absurd z q⟩
        rw [kk] at z2
        rw [vv] at z5
        exact absurd ⟨by omega, z2, z3, z4, z5⟩ q2
  have p3 : 0 ≤ p / 3 ∧ p / 3 < 256 := by omega
  by_cases q : s = 0
  · refine GX12_leadsTo v a b p s ⟨hp.1, hp.1, fun z => absurd q z, fun _ => key (p / 3) (by rw [if_pos q]) (Or.inr p3)⟩
  · have nb := neighbour_run (hi := m) (i := p / 3) (d := s - 1) hM e5 e6 hl hw p3.1 (by omega)
    rw [ek] at nb
    refine GX12_leadsTo v a b p s ⟨hp.1, hp.1, fun _ => ⟨⟨by omega, by omega⟩, nb _ (key _ (by rw [if_neg q]) ?_)⟩, fun z => absurd z q⟩
    rcases nbr_bd (k := k) (i := p / 3) (d := s - 1) hl.1 hw.1 with z | z
    · exact Or.inl z
    · exact Or.inr (by omega)
theorem ldTo_bd (Y : Yd ln wd k a b (pk v)) {p s : Int} (hp : 0 ≤ p) (hp3 : p / 3 < ln * wd) (hs : 0 ≤ s ∧ s < 5) : ldTo ln wd k a b (pk v) p s = -1 ∨ (0 ≤ ldTo ln wd k a b (pk v) p s ∧ ldTo ln wd k a b (pk v) p s < 3 * (ln * wd)) := by
  obtain ⟨y, x, y0, y1, x0, x1, e⟩ := gc_of Y.2.1.1 (show 0 ≤ p / 3 by omega) hp3
  have g := gc_in y0 y1 x0 x1
  have ep : p = 3 * (y * wd + x) + p % 3 := by omega
  rw [ep]
  by_cases q : s = 0
  · subst q
    rcases ldTo_stay (ln := ln) (wd := wd) (k := k) (a := a) (b := b) (pa := pk v) (st := p % 3) g.1 (by omega) with ⟨w, z⟩ | ⟨-, z⟩
    · rw [z]
      rcases w with w | w <;> omega
    · rw [z]; omega
  · have es : s = (s - 1) + 1 := by omega
    rw [es]
    rcases ldTo_go (st := p % 3) (d := s - 1) Y ⟨y0, y1⟩ ⟨x0, x1⟩ (by omega) (by omega) with ⟨w, z⟩ | ⟨-, z⟩
    · have := gc_in w.1 w.2.1 w.2.2.1 w.2.2.2.1
      rw [z]; omega
    · exact Or.inl z
end ZP
