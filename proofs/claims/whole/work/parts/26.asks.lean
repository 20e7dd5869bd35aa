section ZS
variable {hi : zI} {hr : zR}
theorem SimI.ex0 {y y' : zM} {vs : List zV} (h3 : RLb hi hr hi) (h : ∃ x, R0i y (.inr (some (1, 0)) :: vs) hi hr x ∧ R0i y' (.inr (some (37, 0)) :: vs) hi hr x) : SimI y y' vs hi hr := by
  obtain ⟨x, h1, h2⟩ := h
  exact SimI.of0 h1 h2 h3
theorem has_run {l : Int} (x : Int) (h : (x = 1 ∧ 0 ≤ l ∧ l < hi 11 0 5 ∧ l < 60) ∨ (x = 0 ∧ ¬ (0 ≤ l ∧ l < hi 11 0 5 ∧ l < 60))) : R0i mX8_has [.inr (some (11, 0)), .inl l] hi hr x := by
  intro P hP
  refine GX8_has l ?_
  rcases h with ⟨rfl, h⟩ | ⟨rfl, h⟩
  · (repeat' first | with_reducible apply And.intro | with_reducible intro _) <;> first | omega | exact hP | (exfalso; omega)
  · (repeat' first | with_reducible apply And.intro | with_reducible intro _) <;> first | omega | exact hP | (exfalso; omega)
theorem sim_told (h : RLb hi hr hi) (l l2 : Int) : SimI mX11_told mX12_told [.inl l, .inl l2] hi hr := by
  have hR := h.1
  have hM := h.2.1
  refine SimI.ex0 h ?_
  obtain ⟨t1, t2, t3, t4, t5, t6, t7, t8, t9⟩ := h.2.2.2.2.2.2.1
  by_cases hb : 0 ≤ l ∧ l < hi 37 0 19
  · obtain ⟨u1, u2, u3, u4, u5, -⟩ := t9 l hb.1 hb.2
    have g : ∀ x, ((l2 < 0 ∨ 4 < l2) → x = -1) → (l2 = 0 → x = hi 12 0 l) → (l2 = 1 → x = hi 13 0 l) → (l2 = 2 → x = hi 14 0 l) → (l2 = 3 → x = hi 15 0 l) → (l2 = 4 → x = hi 16 0 l) → R0i mX11_told [.inr (some (1, 0)), .inl l, .inl l2] hi hr x ∧ R0i mX12_told [.inr (some (37, 0)), .inl l, .inl l2] hi hr x := by
      intro x g0 g1 g2 g3 g4 g5
      constructor
      · intro P hP
        refine GX11_told hR l l2 (GX8_answer hR l l2 (has_run 1 (by omega) _ ?_))
        refine ⟨fun _ => ⟨fun q => by rw [← g0 q]; exact hP, fun q => ⟨by omega, by rw [← g1 q]; exact hP⟩, fun q => ⟨by omega, by rw [← g2 q]; exact hP⟩, fun q => ⟨by omega, by rw [← g3 q]; exact hP⟩, fun q => ⟨by omega, by rw [← g4 q]; exact hP⟩, fun q => ⟨by omega, by rw [← g5 q]; exact hP⟩⟩, fun q => absurd q (by decide)⟩
      · intro P hP
        refine GX12_told hM l l2 ⟨fun q => absurd q (by omega), fun _ => ⟨fun _ => ?_, fun q => absurd q (by omega)⟩⟩
        rw [← u1, ← u2, ← u3, ← u4, ← u5]
        refine ⟨fun q => by rw [← g0 q]; exact hP, fun q => ⟨by omega, by rw [← g1 q]; exact hP⟩, fun q => ⟨by omega, by rw [← g2 q]; exact hP⟩, fun q => ⟨by omega, by rw [← g3 q]; exact hP⟩, fun q => ⟨by omega, by rw [← g4 q]; exact hP⟩, fun q => ⟨by omega, by rw [← g5 q]; exact hP⟩⟩
    rcases (show (l2 < 0 ∨ 4 < l2) ∨ l2 = 0 ∨ l2 = 1 ∨ l2 = 2 ∨ l2 = 3 ∨ l2 = 4 by omega) with q | q | q | q | q | q
    · exact ⟨-1, g _ (fun _ => rfl) (fun _ => by omega) (fun _ => by omega) (fun _ => by omega) (fun _ => by omega) (fun _ => by omega)⟩
    · exact ⟨hi 12 0 l, g _ (fun _ => by omega) (fun _ => rfl) (fun _ => by omega) (fun _ => by omega) (fun _ => by omega) (fun _ => by omega)⟩
    · exact ⟨hi 13 0 l, g _ (fun _ => by omega) (fun _ => by omega) (fun _ => rfl) (fun _ => by omega) (fun _ => by omega) (fun _ => by omega)⟩
    · exact ⟨hi 14 0 l, g _ (fun _ => by omega) (fun _ => by omega) (fun _ => by omega) (fun _ => rfl) (fun _ => by omega) (fun _ => by omega)⟩
    · exact ⟨hi 15 0 l, g _ (fun _ => by omega) (fun _ => by omega) (fun _ => by omega) (fun _ => by omega) (fun _ => rfl) (fun _ => by omega)⟩
    · exact ⟨hi 16 0 l, g _ (fun _ => by omega) (fun _ => by omega) (fun _ => by omega) (fun _ => by omega) (fun _ => by omega) (fun _ => rfl)⟩
  · refine ⟨-1, fun P hP => GX11_told hR l l2 (GX8_answer hR l l2 (has_run 0 (by omega) _ ?_)), fun P hP => GX12_told hM l l2 ?_⟩
    · exact ⟨fun q => absurd rfl q, fun _ => hP⟩
    · exact ⟨fun _ => hP, fun _ => ⟨fun q => absurd q (by omega), fun _ => hP⟩⟩
theorem stationCell_run (hR : RSc hr) {j l : Int} (hj : 0 ≤ j ∧ j < 2) (hs : hi 30 j 7 ≤ 10) (x : Int) (h : (0 ≤ l ∧ l < hi 30 j 7 ∧ x = hi 34 j l) ∨ (¬ (0 ≤ l ∧ l < hi 30 j 7) ∧ x = -1)) : R0i mX10_stationCell [.inr (some (30, j)), .inl l] hi hr x := by
  intro P hP
  refine GX10_stationCell hR j l hj ?_
  rcases h with ⟨h1, h2, rfl⟩ | ⟨h1, rfl⟩
  · (repeat' first | with_reducible apply And.intro | with_reducible intro _) <;> first | omega | exact hP | (exfalso; omega)
  · (repeat' first | with_reducible apply And.intro | with_reducible intro _) <;> first | omega | exact hP | (exfalso; omega)
theorem sim_task (h : RLb hi hr hi) (l l2 : Int) : SimI mX11_task mX12_task [.inl l, .inl l2] hi hr := by
  have hR := h.1
  have hM := h.2.1
  obtain ⟨t1, t2, t3, t4, t5, t6, t7, t8, t9⟩ := h.2.2.2.2.2.2.1
  obtain ⟨jm, e1, e2, e3, p1, p2, p3, p4, p5, p6, p7, p8, p9, p10, p11, p12, p13, p14, p15, p16⟩ := h.2.2.2.2.2.2.2.1
  have hj : 0 ≤ jm ∧ jm < 2 := by omega
  by_cases hb : (0 ≤ l ∧ l < hi 37 0 9) ∧ (0 ≤ l2 ∧ l2 < hi 37 0 9)
  · obtain ⟨a1, a2, a3, a4⟩ := p14 l hb.1.1 hb.1.2
    obtain ⟨b1, b2, b3, b4⟩ := p14 l2 hb.2.1 hb.2.2
    by_cases hc : l ≠ l2 ∧ hi 37 0 19 ≠ 60
    · refine SimI.of1 (x := hi 11 0 5 + 1 - 1) (c' := zup (zup (zup (zup (zup (zup hi 12 0 (hi 11 0 5) l) 13 0 (hi 11 0 5) l2) 14 0 (hi 11 0 5) (-1)) 15 0 (hi 11 0 5) (-1)) 16 0 (hi 11 0 5) (-1)) 11 0 5 ((hi 11 0 5) + 1)) (m' := zup (zup (zup (zup (zup (zup (zup (zup (zup (zup (zup (zup hi 12 0 (hi 11 0 5) l) 13 0 (hi 11 0 5) l2) 14 0 (hi 11 0 5) (-1)) 15 0 (hi 11 0 5) (-1)) 16 0 (hi 11 0 5) (-1)) 11 0 5 ((hi 11 0 5) + 1)) 46 0 (hi 37 0 19) l) 47 0 (hi 37 0 19) l2) 48 0 (hi 37 0 19) (-1)) 49 0 (hi 37 0 19) (-1)) 50 0 (hi 37 0 19) (-1)) 37 0 19 ((hi 37 0 19) + 1)) (fun P hP => GX11_task hR l l2 ⟨jm, e2, hj, ?_⟩) (fun P hP => GX12_task hM l l2 ?_) ?_
      · refine stationCell_run hR hj (by omega) (hi 34 jm l) (Or.inl ⟨by omega, by omega, rfl⟩) _ ⟨fun q => absurd q (by omega), fun _ => ?_⟩
        refine stationCell_run hR hj (by omega) (hi 34 jm l2) (Or.inl ⟨by omega, by omega, rfl⟩) _ ⟨fun q => absurd q (by omega), fun _ => ⟨fun _ => ?_, fun q => absurd q hc.1⟩⟩
        refine GX8_add hR l l2 ?_
        have hl : 0 ≤ hi 11 0 5 ∧ hi 11 0 5 < 60 := by omega
        exact ⟨fun q => absurd q (by omega), fun _ => ⟨fun _ => ⟨hl, hl, hl, hl, hl, ⟨by omega, by omega⟩, ⟨by omega, by omega⟩, hP⟩, fun q => absurd q (by omega)⟩⟩
      · have hl : 0 ≤ hi 37 0 19 ∧ hi 37 0 19 < 60 := by omega
        have f1 : ∀ s, zup (zup (zup (zup (zup (zup hi 12 0 (hi 11 0 5) l) 13 0 (hi 11 0 5) l2) 14 0 (hi 11 0 5) (-1)) 15 0 (hi 11 0 5) (-1)) 16 0 (hi 11 0 5) (-1)) 11 0 5 ((hi 11 0 5) + 1) 37 0 s = hi 37 0 s := fun s => rfl
        rw [f1 9, f1 19]
        rw [t1] at hP
        exact ⟨fun q => absurd q (by omega), fun _ => ⟨fun q => absurd q (by omega), fun _ => ⟨fun q => absurd q (by omega), fun _ => ⟨fun q => absurd q (by omega), fun _ => ⟨fun q => absurd q hc.1, fun _ => ⟨fun _ => ⟨hl, hl, hl, hl, hl, ⟨by omega, by omega⟩, ⟨by omega, by omega⟩, by rw [← t1] at hP ⊢; exact hP⟩, fun q => absurd q hc.2⟩⟩⟩⟩⟩⟩
      · obtain ⟨h1, h2, h3, h4, h5, h6, h7, h8, h9, h10, h11, h12, h13, h14⟩ := h
        refine ⟨h1, h2, h3, h4, h5, h6, ?_, h8, h9, ?_, h11, h12, h13, ?_⟩
        · refine ⟨?_, t2, t3, t4, t5, t6, ?_, ?_, fun i i0 i1 => ?_⟩
          · show hi 11 0 5 + 1 = hi 37 0 19 + 1
            omega
          · show hi 37 0 20 ≤ hi 37 0 19 + 1
            omega
          · show hi 37 0 19 + 1 ≤ 60
            omega
          · have i2 : i < hi 37 0 19 + 1 := i1
            have k1 : ∀ (k : Nat) (x : Int), zup hi k 0 (hi 37 0 19) x k 0 i = if i = hi 37 0 19 then x else hi k 0 i := fun k x => zup_at _ _ _ _ _ _
            show zup hi 12 0 (hi 11 0 5) l 12 0 i = zup hi 46 0 (hi 37 0 19) l 46 0 i ∧ zup hi 13 0 (hi 11 0 5) l2 13 0 i = zup hi 47 0 (hi 37 0 19) l2 47 0 i ∧ zup hi 14 0 (hi 11 0 5) (-1) 14 0 i = zup hi 48 0 (hi 37 0 19) (-1) 48 0 i ∧ zup hi 15 0 (hi 11 0 5) (-1) 15 0 i = zup hi 49 0 (hi 37 0 19) (-1) 49 0 i ∧ zup hi 16 0 (hi 11 0 5) (-1) 16 0 i = zup hi 50 0 (hi 37 0 19) (-1) 50 0 i ∧ 0 ≤ zup hi 46 0 (hi 37 0 19) l 46 0 i ∧ zup hi 46 0 (hi 37 0 19) l 46 0 i < hi 37 0 9 ∧ 0 ≤ zup hi 47 0 (hi 37 0 19) l2 47 0 i ∧ zup hi 47 0 (hi 37 0 19) l2 47 0 i < hi 37 0 9 ∧ zup hi 46 0 (hi 37 0 19) l 46 0 i ≠ zup hi 47 0 (hi 37 0 19) l2 47 0 i
            rw [t1]
            simp only [k1]
            by_cases hq : i = hi 37 0 19
            · simp only [hq, if_true, eq_self, true_and]
              exact ⟨hb.1.1, hb.1.2, hb.2.1, hb.2.2, hc.1⟩
            · simp only [hq, if_false]
              exact t9 i i0 (by omega)
        · intro v v0 v1
          obtain ⟨w1, w2, w3, w4, w5, w6, w7, w8, w9, w10⟩ := h10 v v0 v1
          refine ⟨w1, w2, w3, w4, w5, w6, w7, w8, ?_, w10⟩
          rcases w9 with w9 | ⟨w9, w11, w12⟩
          · exact Or.inl w9
          · refine Or.inr ⟨w9, w11, ?_⟩
            show hi 78 0 v < hi 37 0 19 + 1
            omega
        · refine ⟨⟨h14.1.1, fun q => ?_⟩, h14.2⟩
          have q2 : hi 17 0 3 = hi 37 0 20 := q
          obtain ⟨z1, z2, z3, z4⟩ := h14.1.2 q2
          refine ⟨?_, z2, z3, fun t ht => ?_⟩
          · show hi 37 0 20 < hi 37 0 19 + 1
            omega
          · have := z4 t ht
            have g1 : zup hi 46 0 (hi 37 0 19) l 46 0 (hi 37 0 20) = hi 46 0 (hi 37 0 20) := zup_f _ _ _ _ _ _ (by omega)
            have g2 : zup hi 47 0 (hi 37 0 19) l2 47 0 (hi 37 0 20) = hi 47 0 (hi 37 0 20) := zup_f _ _ _ _ _ _ (by omega)
            rw [← g1, ← g2] at this
            exact this
    · refine SimI.of1 (x := -1) (c' := hi) (m' := hi) (fun P hP => GX11_task hR l l2 ⟨jm, e2, hj, ?_⟩) (fun P hP => GX12_task hM l l2 ?_) h
      · refine stationCell_run hR hj (by omega) (hi 34 jm l) (Or.inl ⟨by omega, by omega, rfl⟩) _ ⟨fun q => absurd q (by omega), fun _ => ?_⟩
        refine stationCell_run hR hj (by omega) (hi 34 jm l2) (Or.inl ⟨by omega, by omega, rfl⟩) _ ⟨fun q => absurd q (by omega), fun _ => ⟨fun _ => ?_, fun _ => hP⟩⟩
        refine GX8_add hR l l2 ⟨fun _ => hP, fun _ => ⟨fun q => absurd q (by omega), fun _ => hP⟩⟩
      · exact ⟨fun _ => hP, fun _ => ⟨fun _ => hP, fun _ => ⟨fun _ => hP, fun _ => ⟨fun _ => hP, fun _ => ⟨fun _ => hP, fun _ => ⟨fun q => absurd q (by omega), fun _ => hP⟩⟩⟩⟩⟩⟩
  · refine SimI.of1 (x := -1) (c' := hi) (m' := hi) (fun P hP => GX11_task hR l l2 ⟨jm, e2, hj, ?_⟩) (fun P hP => GX12_task hM l l2 ?_) h
    · by_cases hl : 0 ≤ l ∧ l < hi 37 0 9
      · obtain ⟨a1, a2, a3, a4⟩ := p14 l hl.1 hl.2
        refine stationCell_run hR hj (by omega) (hi 34 jm l) (Or.inl ⟨by omega, by omega, rfl⟩) _ ⟨fun q => absurd q (by omega), fun _ => ?_⟩
        exact stationCell_run hR hj (by omega) (-1) (Or.inr ⟨by omega, rfl⟩) _ ⟨fun _ => hP, fun q => absurd rfl q⟩
      · exact stationCell_run hR hj (by omega) (-1) (Or.inr ⟨by omega, rfl⟩) _ ⟨fun _ => hP, fun q => absurd rfl q⟩
    · exact ⟨fun _ => hP, fun _ => ⟨fun _ => hP, fun _ => ⟨fun _ => hP, fun _ => ⟨fun _ => hP, fun q => absurd q (by omega)⟩⟩⟩⟩
end ZS
