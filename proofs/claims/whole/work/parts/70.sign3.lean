/-- a sign more: the relation -/
theorem RI.sign {j ln x wd k : Int} {c c' m : zI} (h : RI j ln x wd c m) (hln : 0 ≤ ln) (hx : 0 ≤ x ∧ x < 16) (hw : 0 < ln → x < wd ∧ wd ≤ 16) (e : ∀ i, c' 31 j i = if i = ln * wd + x then k else c 31 j i) : RI j ln (x + 1) wd c' (zup m 39 0 (256 + 16 * ln + x) k) := by
  obtain ⟨h1, h2, h3, h4⟩ := h
  refine ⟨?_, ?_, ?_, fun y u y0 u0 z => ?_⟩
  · rw [zup_kf _ _ _ _ (by decide)]; exact h1
  · rw [zup_kf _ _ _ _ (by decide)]; exact h2
  · rw [zup_kf _ _ _ _ (by decide)]; exact h3
  · rw [zup_at, e]
    by_cases q : y = ln ∧ u = x
    · rw [q.1, q.2, if_pos rfl, if_pos rfl]
    · have n1 : y * wd + u ≠ ln * wd + x := by
        intro w
        by_cases hl : y = ln
        · rw [hl] at w
          exact q ⟨hl, by omega⟩
        · have hw' := hw (by omega)
          have := gc_inj u0 (show u < wd by omega) hx.1 hw'.1 w
          exact q this
      have u16 : u < 16 := by omega
      rw [if_neg n1, if_neg (by omega)]
      exact h4 y u y0 u0 (by omega)
theorem CI.room {j ln x wd : Int} {c : zI} (h : CI j ln x wd c) (hl : ln < 16) (hx : x < 16) (hw : ¬ (0 < ln ∧ wd ≤ x)) : 0 ≤ ln * wd + x ∧ ln * wd + x < 256 := by
  obtain ⟨h1, h2, h3, h4, h5, h6, h7, h8⟩ := h
  by_cases q : ln = 0
  · rw [q, Int.zero_mul]; omega
  · have h3' := h3 (by omega)
    have := mul_bd (a := ln) (b := wd) (A := 15) (B := 16) (by omega) (by omega) (by omega) (by omega)
    omega
theorem signs_from {j tp : Int} {r : zR} (R : RSc r) (hj : 0 ≤ j ∧ j < 2) (htp : tp ≤ 400) : ∀ (n : Nat) (i ln x wd : Int) (c : zI) (u4 : Option zV), i + n = tp → 0 ≤ i → c 2 0 1 = tp → (∀ i', 0 ≤ i' → i' < tp → -128 ≤ c 3 0 i' ∧ c 3 0 i' < 128) → CI j ln x wd c →
    ∃ (f : Int) (c' : zI) (ln' wd' : Int), spE j c c' ∧ (0 ≤ f ∧ f ≤ 3) ∧ (f = 0 → c' 4 0 2 = tp ∧ 1 ≤ ln' ∧ CI j ln' 0 wd' c') ∧
      (∀ P : Int → zI → Prop, P f c' → WP mX2_faultOfSigns 2 [some (.inr (some (4, 0))), some (.inr (some (2, 0))), some (.inr (some (30, j))), some (.inl i), u4] [] c r (zQ1i r P)) ∧
      ∀ m, RI j ln x wd c m → (∀ i', 0 ≤ i' → i' < tp → m 38 0 i' = c 3 0 i') → ∃ m', rdE m m' ∧ m' 37 0 3 = f ∧ (f ≠ 0 → m' 37 0 4 = c' 4 0 2) ∧ (f = 0 → RI j ln' 0 wd' c' m') ∧ ∀ hr, RSm hr → ∀ (P : zI → Prop) u4 u5 u6, P m' → WP mX12_cuts 19 [some (.inr (some (37, 0))), some (.inl tp), some (.inl x), some (.inl i), u4, u5, u6] [] m hr (zQ1v hr P) := by
  intro n
  induction n with
  | zero =>
    intro i ln x wd c u4 hn h0 h2 hb C
    have ei : i = tp := by omega
    subst ei
    have C0 := C
    obtain ⟨h1, h2', h3, h4, h5, h6, h7, h8⟩ := C
    have C1 : CI j ln x wd (zup c 4 0 2 i) := ⟨h1, h2', h3, h4, h5, h6, h7, h8⟩
    have e2 : zup c 4 0 2 (c 2 0 1) = zup c 4 0 2 i := by rw [h2]
    by_cases q : 0 < ln ∧ x = 0
    · -- the last line is closed
      refine ⟨0, zup c 4 0 2 i, ln, wd, (spE.refl j c).z4 (by decide), by omega, fun _ => ⟨rfl, by omega, by have z := C1; rw [q.2] at z; exact z⟩, fun P hP => GX2_faultOfSigns_2 R j i u4 hj ⟨fun _ => ⟨fun z => absurd z (by omega), fun _ => ⟨fun z => absurd (h2'.trans q.2) z, fun _ => by rw [e2]; exact hP⟩⟩, fun z => absurd z (by omega)⟩, fun m hm ht => ⟨m, rdE.refl m, hm.2.2.1, fun z => absurd rfl z, fun _ => ?_, fun hr hM P u4 u5 u6 hP => ?_⟩⟩
      · have z : RI j ln x wd (zup c 4 0 2 i) m := ⟨hm.1, hm.2.1, hm.2.2.1, hm.2.2.2⟩
        rw [q.2] at z
        exact z
      · have := hm.1
        exact GX12_cuts_19 hM i x i u4 u5 u6 ⟨fun z => absurd z (by omega), fun _ => ⟨fun _ => GX12_cuts_44 i x i u4 u5 u6 (GX12_cuts_49 i x i u4 u5 u6 1 ⟨fun z => absurd rfl z, fun _ => ⟨fun z => absurd q.2 z, fun _ => ⟨fun z => absurd z (by omega), fun _ => hP⟩⟩⟩), fun z => absurd rfl z⟩⟩
    · -- the text ends a line
      have cls : ∀ (f : Int) (c' : zI), R1i mX2_endLine [.inr (some (4, 0)), .inr (some (30, j))] (zup c 4 0 2 i) r f c' → ∀ P : Int → zI → Prop, P f c' → WP mX2_faultOfSigns 2 [some (.inr (some (4, 0))), some (.inr (some (2, 0))), some (.inr (some (30, j))), some (.inl i), u4] [] c r (zQ1i r P) := by
        intro f c' he P hP
        refine GX2_faultOfSigns_2 R j i u4 hj ⟨fun _ => ⟨fun z => ?_, fun z => ⟨fun w => ?_, fun w => ?_⟩⟩, fun z => absurd z (by omega)⟩
        · rw [e2]; exact he _ hP
        · rw [e2]; exact he _ hP
        · exact absurd ⟨by omega, by omega⟩ q
      have ref : ∀ m, RI j ln x wd c m → ∀ hr, RSm hr → ∀ (P : zI → Prop) u4 u5 u6, (∀ u5 u6, WP mX12_cuts 68 [some (.inr (some (37, 0))), some (.inl i), some (.inl x), some (.inl i), some (.inl 1), u5, u6] [] m hr (zQ1v hr P)) → WP mX12_cuts 19 [some (.inr (some (37, 0))), some (.inl i), some (.inl x), some (.inl i), u4, u5, u6] [] m hr (zQ1v hr P) := by
        intro m hm hr hM P u4 u5 u6 hP
        have := hm.1
        exact GX12_cuts_19 hM i x i u4 u5 u6 ⟨fun z => absurd z (by omega), fun _ => ⟨fun _ => GX12_cuts_44 i x i u4 u5 u6 (GX12_cuts_49 i x i u4 u5 u6 1 ⟨fun z => absurd rfl z, fun _ => ⟨fun _ => hP _ _, fun w => ⟨fun _ => hP _ _, fun z => absurd ⟨by omega, w⟩ q⟩⟩⟩), fun z => absurd rfl z⟩⟩
      by_cases F : x = 0 ∨ (0 < ln ∧ x < wd)
      · obtain ⟨c', a1, a2, a3⟩ := endLine_bad (r := r) hj C1 F
        refine ⟨2, c', 0, 0, ((spE.refl j c).z4 (by decide)).trans a2, by omega, fun z => absurd z (by decide), cls 2 c' a1, fun m hm ht => ⟨zup (zup m 37 0 3 2) 37 0 4 i, ((rdE.refl m).z37 (by decide)).z37 (by decide), ?_, fun _ => ?_, fun z => absurd z (by decide), fun hr hM P u4 u5 u6 hP => ref m hm hr hM P u4 u5 u6 (fun u5' u6' => ends_bad hM hm.2.1 (fun z => (h3 z).2.1) h5.1 F P hP u5' u6')⟩⟩
        · rw [zup_f _ _ _ _ _ _ (by decide), zup_s]
        · rw [zup_s, a3, zup_s]
      · obtain ⟨c', wd', a1, a2, a3, a4, a5, a6⟩ := endLine_ok (r := r) hj C1 F
        refine ⟨0, c', ln + 1, wd', ((spE.refl j c).z4 (by decide)).trans a2, by omega, fun _ => ⟨by rw [a3, zup_s], by omega, a4⟩, cls 0 c' a1, fun m hm ht => ?_⟩
        have rl := hm.line (c' := c') h4.1 a5 (by rw [a6]; rfl)
        refine ⟨zup (if ln = 0 then zup m 37 0 14 x else m) 37 0 13 (ln + 1), ?_, rl.2.2.1, fun z => absurd rfl z, fun _ => rl, fun hr hM P u4 u5 u6 hP => ref m hm hr hM P u4 u5 u6 (fun u5' u6' => ends_ok hM hm.1 h4 hm.2.1 (fun z => (h3 z).2.1) h5.1 (by omega) F P (fun u4 u5 u6 => ?_) u5' u6')⟩
        · split
          · exact ((rdE.refl m).z37 (by decide)).z37 (by decide)
          · exact (rdE.refl m).z37 (by decide)
        · exact GX12_cuts_19 hM i 0 (i + 1) u4 u5 u6 ⟨fun _ => hP, fun z => absurd z (by omega)⟩
  | succ n ih =>
    intro i ln x wd c u4 hn h0 h2 hb C
    have C0 := C
    obtain ⟨h1, h2', h3, h4, h5, h6, h7, h8⟩ := C
    have bi := hb i h0 (by omega)
    have zb := zand_b bi
    have i400 : 0 ≤ i ∧ i < 400 := by omega
    have zi : zInR (i + 1) := ⟨by omega, by omega⟩
    by_cases q : c 3 0 i = 10
    · -- a line ends
      have ref : ∀ m, RI j ln x wd c m → (∀ i', 0 ≤ i' → i' < tp → m 38 0 i' = c 3 0 i') → ∀ hr, RSm hr → ∀ (P : zI → Prop) u4 u5 u6, (∀ u5 u6, WP mX12_cuts 68 [some (.inr (some (37, 0))), some (.inl tp), some (.inl x), some (.inl i), some (.inl 1), u5, u6] [] m hr (zQ1v hr P)) → WP mX12_cuts 19 [some (.inr (some (37, 0))), some (.inl tp), some (.inl x), some (.inl i), u4, u5, u6] [] m hr (zQ1v hr P) := by
        intro m hm ht hr hM P u4 u5 u6 hP
        have e38 : m 38 0 i = c 3 0 i := ht i h0 (by omega)
        refine GX12_cuts_19 hM tp x i u4 u5 u6 ⟨fun z => absurd z (by omega), fun _ => ⟨fun z => absurd z (by omega), fun _ => ⟨i400, fun z => ?_, fun _ => GX12_cuts_44 tp x i u4 u5 u6 (GX12_cuts_49 tp x i u4 u5 u6 1 ⟨fun _ => hP _ _, fun z => absurd z (by omega)⟩)⟩⟩⟩
        rw [e38] at z
        exact absurd (zb.1.mpr q) z
      by_cases F : x = 0 ∨ (0 < ln ∧ x < wd)
      · obtain ⟨c', a1, a2, a3⟩ := endLine_bad (r := r) hj C0 F
        refine ⟨2, zup c' 4 0 2 i, 0, 0, a2.z4 (by decide), by omega, fun z => absurd z (by decide), fun P hP => GX2_faultOfSigns_2 R j i u4 hj ⟨fun z => absurd z (by omega), fun _ => ⟨fun z => absurd z (by omega), fun _ => ⟨i400, GX2_takeByte _ j hj ⟨fun z => absurd q z, fun _ => a1 _ ⟨fun z => absurd z (by decide), fun _ => hP⟩⟩⟩⟩⟩, fun m hm ht => ⟨zup (zup m 37 0 3 2) 37 0 4 i, ((rdE.refl m).z37 (by decide)).z37 (by decide), ?_, fun _ => ?_, fun z => absurd z (by decide), fun hr hM P u4 u5 u6 hP => ref m hm ht hr hM P u4 u5 u6 (fun u5' u6' => ends_bad hM hm.2.1 (fun z => (h3 z).2.1) h5.1 F P hP u5' u6')⟩⟩
        · rw [zup_f _ _ _ _ _ _ (by decide), zup_s]
        · rw [zup_s, zup_s]
      · obtain ⟨c1, wd1, a1, a2, a3, a4, a5, a6⟩ := endLine_ok (r := r) hj C0 F
        have k2 : c1 2 = c 2 := a2.1 2 (by decide) (by decide) (by decide) (by decide) (by decide) (by decide) (by decide) (by decide) (by decide)
        have k3 : c1 3 = c 3 := a2.1 3 (by decide) (by decide) (by decide) (by decide) (by decide) (by decide) (by decide) (by decide) (by decide)
        obtain ⟨f, c', ln', wd', b1, b2, b3, b4, b5⟩ := ih (i + 1) (ln + 1) 0 wd1 c1 (some (.inl 0)) (by omega) (by omega) (by rw [k2]; exact h2) (by rw [k3]; exact hb) a4
        refine ⟨f, c', ln', wd', a2.trans b1, b2, b3, fun P hP => GX2_faultOfSigns_2 R j i u4 hj ⟨fun z => absurd z (by omega), fun _ => ⟨fun z => absurd z (by omega), fun _ => ⟨i400, GX2_takeByte _ j hj ⟨fun z => absurd q z, fun _ => a1 _ ⟨fun _ => ⟨zi, b4 P hP⟩, fun z => absurd rfl z⟩⟩⟩⟩⟩, fun m hm ht => ?_⟩
        have rl := hm.line (c' := c1) h4.1 a5 a6
        have fr : rdE m (zup (if ln = 0 then zup m 37 0 14 x else m) 37 0 13 (ln + 1)) := by
          split
          · exact ((rdE.refl m).z37 (by decide)).z37 (by decide)
          · exact (rdE.refl m).z37 (by decide)
        have k38 := fr.1 38 (by decide) (by decide) (by decide) (by decide)
        obtain ⟨m', d1, d2, d3, d4, d5⟩ := b5 _ rl (by rw [k38, k3]; exact ht)
        exact ⟨m', fr.trans d1, d2, d3, d4, fun hr hM P u4 u5 u6 hP => ref m hm ht hr hM P u4 u5 u6 (fun u5' u6' => ends_ok hM hm.1 h4 hm.2.1 (fun z => (h3 z).2.1) h5.1 (by omega) F P (fun u4 u5 u6 => d5 hr hM P u4 u5 u6 hP) u5' u6')⟩
    · -- a sign
      have ref : ∀ m, RI j ln x wd c m → (∀ i', 0 ≤ i' → i' < tp → m 38 0 i' = c 3 0 i') → ∀ hr, RSm hr → ∀ (P : zI → Prop) u4 u5 u6, (∀ u5 u6, WP mX12_cuts 68 [some (.inr (some (37, 0))), some (.inl tp), some (.inl x), some (.inl i), some (.inl 0), u5, u6] [] m hr (zQ1v hr P)) → WP mX12_cuts 19 [some (.inr (some (37, 0))), some (.inl tp), some (.inl x), some (.inl i), u4, u5, u6] [] m hr (zQ1v hr P) := by
        intro m hm ht hr hM P u4 u5 u6 hP
        have e38 : m 38 0 i = c 3 0 i := ht i h0 (by omega)
        refine GX12_cuts_19 hM tp x i u4 u5 u6 ⟨fun z => absurd z (by omega), fun _ => ⟨fun z => absurd z (by omega), fun _ => ⟨i400, fun z => GX12_cuts_49 tp x i u4 u5 u6 0 ⟨fun _ => hP _ _, fun z => absurd z (by omega)⟩, fun z => ?_⟩⟩⟩
        rw [e38] at z
        exact absurd (zb.1.mp z) q
      have sgb := sgn_bd (c 3 0 i)
      -- what the class does with a fault
      have clsBad : ∀ f : Int, f ≠ 0 → (∀ P : Int → zI → Prop, P f c → W1i mX2_takeByte [.inr (some (4, 0)), .inl (c 3 0 i), .inr (some (30, j))] c r P) → ∀ P : Int → zI → Prop, P f (zup c 4 0 2 i) → WP mX2_faultOfSigns 2 [some (.inr (some (4, 0))), some (.inr (some (2, 0))), some (.inr (some (30, j))), some (.inl i), u4] [] c r (zQ1i r P) :=
        fun f hf ht P hP => GX2_faultOfSigns_2 R j i u4 hj ⟨fun z => absurd z (by omega), fun _ => ⟨fun z => absurd z (by omega), fun _ => ⟨i400, ht _ ⟨fun z => absurd z hf, fun _ => hP⟩⟩⟩⟩
      have bad : ∀ f : Int, (1 ≤ f ∧ f ≤ 3) → ((sgn (c 3 0 i) = -1 ∧ f = 1) ∨ (sgn (c 3 0 i) ≠ -1 ∧ 0 < ln ∧ wd ≤ x ∧ f = 2) ∨ (sgn (c 3 0 i) ≠ -1 ∧ ¬ (0 < ln ∧ wd ≤ x) ∧ ((ln = 16 ∧ x = 0) ∨ x = 16) ∧ f = 3)) → (∀ P : Int → zI → Prop, P f c → W1i mX2_takeByte [.inr (some (4, 0)), .inl (c 3 0 i), .inr (some (30, j))] c r P) →
          ∃ (f : Int) (c' : zI) (ln' wd' : Int), spE j c c' ∧ (0 ≤ f ∧ f ≤ 3) ∧ (f = 0 → c' 4 0 2 = tp ∧ 1 ≤ ln' ∧ CI j ln' 0 wd' c') ∧
      (∀ P : Int → zI → Prop, P f c' → WP mX2_faultOfSigns 2 [some (.inr (some (4, 0))), some (.inr (some (2, 0))), some (.inr (some (30, j))), some (.inl i), u4] [] c r (zQ1i r P)) ∧
      ∀ m, RI j ln x wd c m → (∀ i', 0 ≤ i' → i' < tp → m 38 0 i' = c 3 0 i') → ∃ m', rdE m m' ∧ m' 37 0 3 = f ∧ (f ≠ 0 → m' 37 0 4 = c' 4 0 2) ∧ (f = 0 → RI j ln' 0 wd' c' m') ∧ ∀ hr, RSm hr → ∀ (P : zI → Prop) u4 u5 u6, P m' → WP mX12_cuts 19 [some (.inr (some (37, 0))), some (.inl tp), some (.inl x), some (.inl i), u4, u5, u6] [] m hr (zQ1v hr P) := by
        intro f hf F ht
        refine ⟨f, zup c 4 0 2 i, 0, 0, (spE.refl j c).z4 (by decide), by omega, fun z => by omega, clsBad f (by omega) ht, fun m hm ht => ⟨zup (zup m 37 0 3 f) 37 0 4 i, ((rdE.refl m).z37 (by decide)).z37 (by decide), ?_, fun _ => ?_, fun z => by omega, fun hr hM P u4 u5 u6 hP => ref m hm ht hr hM P u4 u5 u6 (fun u5' u6' => sign_bad hM hm.1 i400 (by rw [ht i h0 (by omega)]) zb.2 hm.2.1 (fun z => (h3 z).2.1) h5 F P hP u5' u6')⟩⟩
        · rw [zup_f _ _ _ _ _ _ (by decide), zup_s]
        · rw [zup_s, zup_s]
      by_cases s1 : sgn (c 3 0 i) = -1
      · refine bad 1 (by omega) (Or.inl ⟨s1, rfl⟩) (fun P hP => GX2_takeByte _ j hj ⟨fun _ => kindOfSign_run _ _ ⟨fun z => absurd s1 z, fun _ => hP⟩, fun z => absurd z q⟩)
      · by_cases s2 : 0 < ln ∧ wd ≤ x
        · have h3' := h3 s2.1
          refine bad 2 (by omega) (Or.inr (Or.inl ⟨s1, s2.1, s2.2, rfl⟩)) (fun P hP => GX2_takeByte _ j hj ⟨fun _ => kindOfSign_run _ _ ⟨fun _ => ⟨fun z => absurd z (by omega), fun _ => ⟨fun z => absurd z (by omega), fun _ => hP⟩⟩, fun z => absurd z s1⟩, fun z => absurd z q⟩)
        · by_cases s3 : (ln = 16 ∧ x = 0) ∨ x = 16
          · refine bad 3 (by omega) (Or.inr (Or.inr ⟨s1, s2, s3, rfl⟩)) (fun P hP => GX2_takeByte _ j hj ⟨fun _ => kindOfSign_run _ _ ⟨fun _ => ⟨fun z => ⟨fun _ => hP, fun _ => ⟨fun w => absurd w (by omega), fun _ => hP⟩⟩, fun z => ?_⟩, fun z => absurd z s1⟩, fun z => absurd z q⟩)
            have h3' := h3 (by omega)
            exact ⟨fun _ => ⟨fun _ => hP, fun _ => ⟨fun w => absurd w (by omega), fun _ => hP⟩⟩, fun w => absurd w (by omega)⟩
          · -- a cell more
            have room := C0.room (by omega) (by omega) s2
            obtain ⟨c1, a1, a2, a3, a4, a5, a6, a7⟩ := addCell_run (q := sgn (c 3 0 i)) R hj (by omega) h7 room h8
            have d4 : zup c1 4 0 4 (c1 4 0 4 + 1) 4 0 4 = x + 1 := by rw [zup_s, a3, h2']
            have C1 : CI j ln (x + 1) wd (zup c1 4 0 4 (c1 4 0 4 + 1)) := by
              refine ⟨?_, d4, fun z => ?_, h4, by omega, fun z => by omega, ?_, ?_⟩
              · rw [zup_f _ _ _ _ _ _ (by decide), a3]; exact h1
              · have h3' := h3 z
                rw [zup_kf _ _ _ _ (by decide), a4]
                exact ⟨h3'.1, h3'.2.1, h3'.2.2.1, by omega⟩
              · rw [zup_kf _ _ _ _ (by decide), a5]; omega
              · rw [← Int.add_assoc]
                exact a7
            have sp1 : spE j c (zup c1 4 0 4 (c1 4 0 4 + 1)) := a2.z4 (by decide)
            have k2 : zup c1 4 0 4 (c1 4 0 4 + 1) 2 = c 2 := sp1.1 2 (by decide) (by decide) (by decide) (by decide) (by decide) (by decide) (by decide) (by decide) (by decide)
            have k3 : zup c1 4 0 4 (c1 4 0 4 + 1) 3 = c 3 := sp1.1 3 (by decide) (by decide) (by decide) (by decide) (by decide) (by decide) (by decide) (by decide) (by decide)
            obtain ⟨f, c', ln', wd', b1, b2, b3, b4, b5⟩ := ih (i + 1) ln (x + 1) wd _ (some (.inl 0)) (by omega) (by omega) (by rw [k2]; exact h2) (by rw [k3]; exact hb) C1
            have z14 : zInR (c1 4 0 4 + 1) := by rw [a3, h2']; exact ⟨by omega, by omega⟩
            refine ⟨f, c', ln', wd', sp1.trans b1, b2, b3, fun P hP => GX2_faultOfSigns_2 R j i u4 hj ⟨fun z => absurd z (by omega), fun _ => ⟨fun z => absurd z (by omega), fun _ => ⟨i400, GX2_takeByte _ j hj ⟨fun _ => kindOfSign_run _ _ ⟨fun _ => ⟨fun z => ⟨fun w => absurd w (by omega), fun _ => ⟨fun _ => a1 _ ⟨z14, fun _ => ⟨zi, b4 P hP⟩, fun z => absurd rfl z⟩, fun w => absurd w (by omega)⟩⟩, fun z => ?_⟩, fun z => absurd z s1⟩, fun z => absurd z q⟩⟩⟩⟩, fun m hm ht => ?_⟩
            · have h3' := h3 (by omega)
              exact ⟨fun _ => ⟨fun w => absurd w (by omega), fun _ => ⟨fun _ => a1 _ ⟨z14, fun _ => ⟨zi, b4 P hP⟩, fun z => absurd rfl z⟩, fun w => absurd w (by omega)⟩⟩, fun w => absurd w (by omega)⟩
            · have rl := hm.sign (c' := zup c1 4 0 4 (c1 4 0 4 + 1)) h4.1 (by omega) (fun z => ⟨by omega, (h3 z).2.2.1⟩) a6
              have fr : rdE m (zup m 39 0 (256 + 16 * ln + x) (sgn (c 3 0 i))) := (rdE.refl m).z39 (by omega)
              have k38 := fr.1 38 (by decide) (by decide) (by decide) (by decide)
              obtain ⟨m', e1, e2, e3, e4, e5⟩ := b5 _ rl (by rw [k38, k3]; exact ht)
              exact ⟨m', fr.trans e1, e2, e3, e4, fun hr hM P u4 u5 u6 hP => ref m hm ht hr hM P u4 u5 u6 (fun u5' u6' => sign_ok hM hm.1 h4 i400 (by rw [ht i h0 (by omega)]) zb.2 hm.2.1 h5 ⟨s1, s2, by omega, by omega⟩ P (fun u4 u5 u6 => e5 hr hM P u4 u5 u6 hP) u5' u6')⟩
