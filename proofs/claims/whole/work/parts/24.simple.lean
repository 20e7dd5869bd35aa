section ZS
variable {hi : zI} {hr : zR}
theorem R1v.of {y : zM} {vs : List zV} {hi' : zI} (h : ∀ P : zI → Prop, P hi' → W1v y vs hi hr P) : R1v y vs hi hr hi' := h
theorem addWord_run (hR : RSc hr) {l : Int} (hl : zInR l) {n : Int} (hn : hi 2 0 1 = n) (h0 : 0 ≤ n) (h1 : n + 4 ≤ 400) :
    ∃ hi', R1v mX7_addWord [.inr (some (2, 0)), .inl l] hi hr hi' ∧ hi' 2 0 1 = n + 4 ∧ (∀ i : Int, i < n → hi' 3 0 i = hi 3 0 i) ∧ (∀ i : Int, 0 ≤ i → i < 4 → hi' 3 0 (n + i) = byt l i) ∧ ∀ q, q ≠ 2 → q ≠ 3 → hi' q = hi q := by
  obtain ⟨hi', r1, r2, r3, r4, r5⟩ := addWord_loop hR hl 4 hi n (by omega) hn h0 (by omega)
  refine ⟨hi', fun P hP => GX7_addWord l (r1 P hP), r2, r3, fun i a b => ?_, r5⟩
  rw [r4 i a b]
  congr 1
  omega
theorem put_run (hM : RSm hr) {l : Int} {n : Int} (hn : hi 37 0 2 = n) (h0 : 0 ≤ n) (h1 : n + 4 ≤ 400) :
    ∃ hi', R1v mX12_put [.inr (some (37, 0)), .inl l] hi hr hi' ∧ hi' 37 0 2 = n + 4 ∧ (∀ i : Int, i < n → hi' 38 0 i = hi 38 0 i) ∧ (∀ i : Int, 0 ≤ i → i < 4 → hi' 38 0 (n + i) = byt l i) ∧ (∀ q, q ≠ 37 → q ≠ 38 → hi' q = hi q) ∧ ∀ j s : Int, ¬ (j = 0 ∧ s = 2) → hi' 37 j s = hi 37 j s := by
  obtain ⟨hi', r1, r2, r3, r4, r5, r6⟩ := put_loop hM (l := l) 4 hi n (by omega) hn h0 (by omega)
  refine ⟨hi', fun P hP => GX12_put l (r1 P hP), r2, r3, fun i a b => ?_, r5, r6⟩
  rw [r4 i a b]
  congr 1
  omega
theorem app4 {n : Int} {f g f' g' b : Int → Int} (hb : ∀ i, -128 ≤ b i ∧ b i < 128) (h : ∀ i, 0 ≤ i → i < n → f i = g i ∧ -128 ≤ g i ∧ g i < 128) (h1 : ∀ i : Int, i < n → f' i = f i) (h2 : ∀ i : Int, 0 ≤ i → i < 4 → f' (n + i) = b i) (k1 : ∀ i : Int, i < n → g' i = g i) (k2 : ∀ i : Int, 0 ≤ i → i < 4 → g' (n + i) = b i) : ∀ i, 0 ≤ i → i < n + 4 → f' i = g' i ∧ -128 ≤ g' i ∧ g' i < 128 := by
  intro i i0 i1
  by_cases q : i < n
  · rw [h1 i q, k1 i q]; exact h i i0 q
  · have u := h2 (i - n) (by omega) (by omega)
    have w := k2 (i - n) (by omega) (by omega)
    rw [show n + (i - n) = i by omega] at u w
    rw [u, w]
    exact ⟨rfl, hb _⟩
set_option maxHeartbeats 4000000 in
theorem sim_feed (h : RLb hi hr hi) {l1 l2 l3 l4 l5 : Int} (k1 : zInR l1) (k2 : zInR l2) (k3 : zInR l3) (k4 : zInR l4) (k5 : zInR l5) : SimI mX11_feed mX12_feed [.inl l1, .inl l2, .inl l3, .inl l4, .inl l5] hi hr := by
  have hR := h.1
  have hM := h.2.1
  have ht := h.2.2.2.2.1
  obtain ⟨t1, t2, t3, t4, t5⟩ := ht
  by_cases hb : hi 37 0 2 + 20 ≤ 400
  · obtain ⟨c1, a1, a2, a3, a4, a5⟩ := addWord_run hR k1 t1 t2 (by omega)
    obtain ⟨c2, b1, b2, b3, b4, b5⟩ := addWord_run hR k2 a2 (by omega) (by omega)
    obtain ⟨c3, d1, d2, d3, d4, d5⟩ := addWord_run hR k3 b2 (by omega) (by omega)
    obtain ⟨c4, e1, e2, e3, e4, e5⟩ := addWord_run hR k4 d2 (by omega) (by omega)
    obtain ⟨c5, f1, f2, f3, f4, f5⟩ := addWord_run hR k5 e2 (by omega) (by omega)
    have fr : ∀ q, q ≠ 2 → q ≠ 3 → c5 q = hi q := fun q x y => by rw [f5 q x y, e5 q x y, d5 q x y, b5 q x y, a5 q x y]
    have hn : c5 37 0 2 = hi 37 0 2 := by rw [fr 37 (by decide) (by decide)]
    obtain ⟨m1, A1, A2, A3, A4, A5, A6⟩ := put_run hM (l := l1) hn t2 (by omega)
    obtain ⟨m2, B1, B2, B3, B4, B5, B6⟩ := put_run hM (l := l2) A2 (by omega) (by omega)
    obtain ⟨m3, D1, D2, D3, D4, D5, D6⟩ := put_run hM (l := l3) B2 (by omega) (by omega)
    obtain ⟨m4, E1, E2, E3, E4, E5, E6⟩ := put_run hM (l := l4) D2 (by omega) (by omega)
    obtain ⟨m5, F1, F2, F3, F4, F5, F6⟩ := put_run hM (l := l5) E2 (by omega) (by omega)
    have gr : ∀ q, q ≠ 37 → q ≠ 38 → m5 q = c5 q := fun q x y => by rw [F5 q x y, E5 q x y, D5 q x y, B5 q x y, A5 q x y]
    refine SimI.of1 (x := hi 37 0 2 + 20) (c' := c5) (m' := m5) (fun P hP => GX11_feed hR _ _ _ _ _ ?_) (fun P hP => GX12_feed _ _ _ _ _ ?_) ?_
    · refine GX7_hasRoomForFive ⟨⟨by omega, by omega⟩, fun h => absurd h (by omega), fun _ => ⟨fun _ => ?_, fun h => absurd h (by decide)⟩⟩
      refine a1 _ (b1 _ (d1 _ (e1 _ (f1 _ ?_))))
      rw [f2]
      rw [show hi 37 0 2 + 4 + 4 + 4 + 4 + 4 = hi 37 0 2 + 20 by omega]
      exact hP
    · refine ⟨⟨by omega, by omega⟩, fun _ => ?_, fun h => absurd h (by omega)⟩
      refine A1 _ (B1 _ (D1 _ (E1 _ (F1 _ ?_))))
      rw [F2]
      rw [show hi 37 0 2 + 4 + 4 + 4 + 4 + 4 = hi 37 0 2 + 20 by omega]
      exact hP
    · have ec : c5 = zput (zput hi 2 (c5 2)) 3 (c5 3) := by
        funext q
        by_cases h3 : q = 3
        · subst h3; rw [zput_s]
        · by_cases h2 : q = 2
          · subst h2; rw [zput_k _ _ h3, zput_s]
          · rw [zput_k _ _ h3, zput_k _ _ h2, fr q h2 h3]
      have em : m5 = zput (zup (zput (zput hi 2 (c5 2)) 3 (c5 3)) 37 0 2 (hi 37 0 2 + 20)) 38 (m5 38) := by
        funext q
        by_cases h3 : q = 38
        · subst h3; rw [zput_s]
        · by_cases h2 : q = 37
          · subst h2
            rw [zput_k _ _ h3, ← ec]
            funext j s
            by_cases hj : j = 0 ∧ s = 2
            · obtain ⟨rfl, rfl⟩ := hj
              rw [F2, zup_s]
              omega
            · rw [F6 j s hj, E6 j s hj, D6 j s hj, B6 j s hj, A6 j s hj, zup_v, if_neg hj]
          · rw [zput_k _ _ h3, zup_kf _ _ _ _ h2, ← ec, gr q h2 h3]
      have hT : RlT (c5 2 0) (c5 3 0) (hi 1 0 8) (hi 37 0 2 + 20) (hi 37 0 4) (m5 38 0) := by
        have s0 : ∀ i, 0 ≤ i → i < hi 37 0 2 → hi 3 0 i = c5 38 0 i ∧ -128 ≤ c5 38 0 i ∧ c5 38 0 i < 128 := fun i i0 i1 => by rw [fr 38 (by decide) (by decide)]; exact t4 i i0 i1
        have s5 := app4 (fun i => zi2b_rng _) (app4 (fun i => zi2b_rng _) (app4 (fun i => zi2b_rng _) (app4 (fun i => zi2b_rng _) (app4 (fun i => zi2b_rng _) s0 a3 a4 A3 A4) b3 b4 B3 B4) d3 d4 D3 D4) e3 e4 E3 E4) f3 f4 F3 F4
        exact ⟨by rw [f2, show hi 37 0 2 + 4 + 4 + 4 + 4 + 4 = hi 37 0 2 + 20 by omega], Int.add_nonneg t2 (by decide), hb, fun i i0 i1 => s5 i i0 (by rw [show hi 37 0 2 + 4 + 4 + 4 + 4 + 4 = hi 37 0 2 + 20 by omega]; exact i1), t5⟩
      rw [em]
      obtain ⟨h1, h2, h3, h4, h5, h6⟩ := h
      exact ⟨h1, h2, h3, h4, hT, h6⟩
  · refine SimI.of1 (x := -1) (c' := hi) (m' := hi) (fun P hP => GX11_feed hR _ _ _ _ _ ?_) (fun P hP => GX12_feed _ _ _ _ _ ?_) h
    · refine GX7_hasRoomForFive ⟨⟨by omega, by omega⟩, fun _ => ⟨fun h => absurd rfl h, fun _ => hP⟩, fun h => absurd h (by omega)⟩
    · exact ⟨⟨by omega, by omega⟩, fun h => absurd h (by omega), fun _ => hP⟩
end ZS
