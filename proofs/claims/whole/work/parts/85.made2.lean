theorem cnK_2 (q : Int) (K : Int → Int) : cnK q K 2 = (if K 0 = q then 1 else 0) + (if K 1 = q then 1 else 0) := by
  rw [show (2 : Int) = 0 + 1 + 1 from rfl, cnK_succ q K (by decide), cnK_succ q K (by decide), cnK_0]
  simp
/-- the state behind the class's constructor -/
theorem fy_made : ∃ c : zI, (∀ Q : zQ, Q none 130 c gR1 → VPm mX11_init [.inr (some (1, 0))] 1 (zclr hI0 1 0) (zclrR hR0 1 0) Q) ∧ c 1 0 8 = -1 ∧ c 2 0 1 = 0 ∧ c 30 0 5 = 2 ∧ c 30 0 6 = 2 ∧ c 31 0 0 = 3 ∧ c 31 0 1 = 2 ∧
    (∀ i d, 0 ≤ i → i < 2 → 0 ≤ d → d < 4 → c 33 0 (i * 4 + d) = nbr 1 2 (c 31 0) i d) ∧ MpI (c 31 0) 2 (c 30 0 7) (c 30 0 8) (c 32 0) (c 34 0) (c 35 0) 10 6 ∧ c 30 0 7 = 1 ∧ c 30 0 8 = 1 ∧ CNew c 0 1 := by
  have R := RSc_gR1
  have M0 : MpI (gI1 31 0) 0 (gI1 30 0 7) (gI1 30 0 8) (gI1 32 0) (gI1 34 0) (gI1 35 0) 10 6 := by
    rw [show gI1 30 0 7 = 0 by decide +kernel, show gI1 30 0 8 = 0 by decide +kernel]
    exact MpI.zero _ _ _ _ _ _
  obtain ⟨c2, a1, a2, -, a4, a5, a6, a7⟩ := addCell_run (c := gI1) (r := gR1) R (j := 0) (q := 3) (n := 0) (by decide) (by decide) (by decide +kernel) (by decide) M0
  obtain ⟨c3, b1, b2, -, b4, b5, b6, b7⟩ := addCell_run (c := c2) (r := gR1) R (j := 0) (q := 2) (n := 1) (by decide) (by decide) a5 (by decide) a7
  have k0 : c3 31 0 0 = 3 := by rw [b6, if_neg (by decide), a6, if_pos rfl]
  have k1 : c3 31 0 1 = 2 := by rw [b6, if_pos rfl]
  have e7 : c3 30 0 7 = 1 := by rw [b7.1, show (1 : Int) + 1 = 2 from rfl, cnK_2, k0, k1]; rfl
  have e8 : c3 30 0 8 = 1 := by rw [b7.2.1, show (1 : Int) + 1 = 2 from rfl, cnK_2, k0, k1]; rfl
  obtain ⟨c4, d1, d2, d3, d4, d5⟩ := join_from (r := gR1) (j := 0) (wd := 2) (ln := 1) R (by decide) (by decide) (by decide) 2 0 (zup c3 30 0 6 2) (by decide) (by decide) ((zup_f _ _ _ _ _ _ (by decide)).trans b5) (zup_s _ _ _ _ _)
  have h30 : c4 30 = zup c3 30 0 6 2 30 := d1 30 (by decide)
  have f5 : c4 30 0 5 = 2 := by rw [h30]; exact (zup_f _ _ _ _ _ _ (by decide)).trans b5
  have f6 : c4 30 0 6 = 2 := by rw [h30]; exact zup_s _ _ _ _ _
  have f7 : c4 30 0 7 = 1 := by rw [h30]; exact (zup_f _ _ _ _ _ _ (by decide)).trans e7
  have f8 : c4 30 0 8 = 1 := by rw [h30]; exact (zup_f _ _ _ _ _ _ (by decide)).trans e8
  have h31 : c4 31 = c3 31 := d1 31 (by decide)
  have h32 : c4 32 = c3 32 := d1 32 (by decide)
  have h34 : c4 34 = c3 34 := d1 34 (by decide)
  have h35 : c4 35 = c3 35 := d1 35 (by decide)
  have h1 : c4 1 = gI1 1 := (d1 1 (by decide)).trans ((b2.1 1 (by decide) (by decide) (by decide) (by decide) (by decide) (by decide) (by decide) (by decide) (by decide)).trans (a2.1 1 (by decide) (by decide) (by decide) (by decide) (by decide) (by decide) (by decide) (by decide) (by decide)))
  have h2 : c4 2 = gI1 2 := (d1 2 (by decide)).trans ((b2.1 2 (by decide) (by decide) (by decide) (by decide) (by decide) (by decide) (by decide) (by decide) (by decide)).trans (a2.1 2 (by decide) (by decide) (by decide) (by decide) (by decide) (by decide) (by decide) (by decide) (by decide)))
  obtain ⟨c5, g1, g2, g3, g4⟩ := beginAnew_run (c := c4) (r := gR1) (j := 0) R (by decide +kernel) (by decide) (by rw [f8]; decide)
  rw [f8] at g4
  have q30 : c5 30 = c4 30 := g2 30 (by decide) (by decide) (by decide) (by decide) (by decide) (by decide) (by decide) (by decide) (by decide)
  have q31 : c5 31 = c4 31 := g2 31 (by decide) (by decide) (by decide) (by decide) (by decide) (by decide) (by decide) (by decide) (by decide)
  have q32 : c5 32 = c4 32 := g2 32 (by decide) (by decide) (by decide) (by decide) (by decide) (by decide) (by decide) (by decide) (by decide)
  have q33 : c5 33 = c4 33 := g2 33 (by decide) (by decide) (by decide) (by decide) (by decide) (by decide) (by decide) (by decide) (by decide)
  have q34 : c5 34 = c4 34 := g2 34 (by decide) (by decide) (by decide) (by decide) (by decide) (by decide) (by decide) (by decide) (by decide)
  have q35 : c5 35 = c4 35 := g2 35 (by decide) (by decide) (by decide) (by decide) (by decide) (by decide) (by decide) (by decide) (by decide)
  have q2 : c5 2 = c4 2 := g2 2 (by decide) (by decide) (by decide) (by decide) (by decide) (by decide) (by decide) (by decide) (by decide)
  refine ⟨c5, fun Q k => ?_, ?_, ?_, ?_, ?_, ?_, ?_, ?_, ?_, ?_, ?_, g4⟩
  · refine CX11 Q ?_
    have W := GX11_init_122 (hi := gI1) (hr := gR1) (P := fun hi => hi = c5) ⟨0, by decide +kernel, by decide, a1 _ (b1 _ (GX10_joinCells 0 (by decide) (d5 _ _ _ (g1 _ rfl))))⟩
    refine VP.mono (W 130 0) (fun r n' hi' hr' q => ?_)
    obtain ⟨rfl, rfl, rfl, rfl⟩ := q
    exact k
  · rw [g3, h1]; decide +kernel
  · rw [q2, h2]; decide +kernel
  · rw [q30, f5]
  · rw [q30, f6]
  · rw [q31, h31, k0]
  · rw [q31, h31, k1]
  · intro i d x1 x2 x3 x4
    rw [q33, q31, d4 i d x1 (by omega) x3 x4, h31, zup_kf _ _ _ _ (by decide)]
  · rw [q31, q30, q32, q34, q35, h31, h32, h34, h35, f7, f8]
    have b8 := b7
    rw [e7, e8] at b8
    exact b8
  · rw [q30, f7]
  · rw [q30, f8]
/-- the state behind both constructors -/
theorem both_made : ∃ c m : zI, (∀ Q : zQ, Q none 130 c gR1 → VPm mX11_init [.inr (some (1, 0))] 1 (zclr hI0 1 0) (zclrR hR0 1 0) Q) ∧ (∀ Q : zQ, Q none 174 m gR2 → VPm mX12_init [.inr (some (37, 0))] 131 (zclr c 37 0) (zclrR gR1 37 0) Q) ∧ RLb m gR2 m := by
  obtain ⟨c, a0, a1, a2, a3, a4, a5, a6, a7, a8, a9, a10, a11⟩ := fy_made
  obtain ⟨z, ez⟩ : ∃ z : zI, z = zup (zup (zup (zup (zup (sI12 (zclr c 37 0)) 39 0 0 3) 39 0 1 2) 37 0 5 1) 37 0 6 2) 37 0 17 1 := ⟨_, rfl⟩
  have z39 : ∀ i : Int, 0 ≤ i → i < 1 * 2 → z 39 0 i = c 31 0 i := by
    intro i h0 h1
    rcases (show i = 0 ∨ i = 1 by omega) with rfl | rfl
    · rw [ez, a5]; rfl
    · rw [ez, a6]; rfl
  have c31 : ∀ i : Int, 0 ≤ i → i < 1 * 2 → 0 ≤ c 31 0 i ∧ c 31 0 i ≤ 3 := by
    intro i h0 h1
    rcases (show i = 0 ∨ i = 1 by omega) with rfl | rfl
    · rw [a5]; decide
    · rw [a6]; decide
  obtain ⟨m, b1, b2, b3, b4, b5, ⟨b6, b7, b8, b9⟩, b10, b11⟩ := begins_run (m := z) (ln := 1) (wd := 2) (by decide) (by decide) (by rw [ez]; rfl) (by rw [ez]; rfl) (by rw [ez]; rfl) (by rw [ez]; rfl) (fun i h0 h1 => by rw [z39 i h0 h1]; exact c31 i h0 h1)
  have lo : ∀ q : Nat, q < 37 → z q = c q → m q = c q := fun q h e => (b2 q h).trans e
  have w1 : m 1 = c 1 := lo 1 (by decide) (by rw [ez]; rfl)
  have w2 : m 2 = c 2 := lo 2 (by decide) (by rw [ez]; rfl)
  have w7 : m 7 = c 7 := lo 7 (by decide) (by rw [ez]; rfl)
  have w8 : m 8 = c 8 := lo 8 (by decide) (by rw [ez]; rfl)
  have w11 : m 11 = c 11 := lo 11 (by decide) (by rw [ez]; rfl)
  have w17 : m 17 = c 17 := lo 17 (by decide) (by rw [ez]; rfl)
  have w24 : m 24 = c 24 := lo 24 (by decide) (by rw [ez]; rfl)
  have w25 : m 25 = c 25 := lo 25 (by decide) (by rw [ez]; rfl)
  have w30 : m 30 = c 30 := lo 30 (by decide) (by rw [ez]; rfl)
  have w31 : m 31 = c 31 := lo 31 (by decide) (by rw [ez]; rfl)
  have w32 : m 32 = c 32 := lo 32 (by decide) (by rw [ez]; rfl)
  have w33 : m 33 = c 33 := lo 33 (by decide) (by rw [ez]; rfl)
  have w34 : m 34 = c 34 := lo 34 (by decide) (by rw [ez]; rfl)
  have w35 : m 35 = c 35 := lo 35 (by decide) (by rw [ez]; rfl)
  have w36 : m 36 = c 36 := lo 36 (by decide) (by rw [ez]; rfl)
  have cn : CNew m 0 1 := by
    unfold CNew at a11 ⊢
    rw [w1, w7, w8, w11, w17, w24, w25, w35, w36]
    exact a11
  refine ⟨c, m, a0, fun Q k => ?_, ?_⟩
  · refine CX12 Q ?_
    have W := GX12_init_370 (hi := sI12 (zclr c 37 0)) (hr := gR2) (P := fun hi => hi = m) RSm_gR2 (by rw [← ez]; exact b1 gR2 RSm_gR2 _ rfl)
    refine VP.mono (W 174 0) (fun r n' hi' hr' q => ?_)
    obtain ⟨rfl, rfl, rfl, rfl⟩ := q
    exact k
  · refine RLb_new (j := 0) (ln := 1) (wd := 2) RSc_gR2 RSm_gR2 ⟨0, Or.inl rfl, by decide +kernel, by decide +kernel⟩ (Or.inl rfl) (by decide +kernel) (by decide +kernel) ⟨fun i => i, fun i h0 h1 => ?_, fun i i' h0 h1 h2 => by show i ≠ i'; omega⟩ (by decide) (by decide) b8 b9 ?_ ?_ ?_ ?_ ?_ b10 ?_ ?_ ?_ ?_ b11
    · refine ⟨?_, h0, h1⟩
      have := g9 i.toNat (by omega)
      rw [show ((i.toNat : Nat) : Int) = i by omega] at this
      exact this
    · rw [w30]; exact a3
    · rw [w30]; exact a4
    · intro i h0 h1
      rw [w31, b4, z39 i h0 h1]
    · intro i d h0 h1 h2 h3
      rw [w33, w31]
      exact a7 i d h0 (by omega) h2 h3
    · rw [w31, w30, w32, w34, w35]; exact a8
    · rw [w30, a10]; decide
    · rw [w30, a9]; decide
    · refine ⟨?_, ?_, ?_, fun i h0 h1 => ?_, ?_⟩
      · rw [w2, a2, b6, ez]; rfl
      · rw [b6, ez]; exact Int.le_refl _
      · rw [b6, ez]; show (0 : Int) ≤ 400; decide
      · exfalso
        rw [b6, ez] at h1
        have h2 : i < 0 := h1
        omega
      · rw [w1, a1, b7, ez]; rfl
    · rw [w30, a10]
      exact cn
