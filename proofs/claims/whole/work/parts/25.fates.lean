/-- slots lo .. up - 1 of a cell all x -/
def zfil (h : zI) (k : Nat) (j lo up x : Int) : zI := fun k' j' s' => if k' = k ∧ j' = j ∧ lo ≤ s' ∧ s' < up then x else h k' j' s'
theorem zfil_0 (h : zI) (k : Nat) (j lo up x : Int) (e : up ≤ lo) : zfil h k j lo up x = h := by
  funext k' j' s'
  unfold zfil
  rw [if_neg (by omega)]
theorem zfil_s (h : zI) (k : Nat) (j lo up x : Int) (e : lo < up) : zfil (zup h k j lo x) k j (lo + 1) up x = zfil h k j lo up x := by
  funext k' j' s'
  unfold zfil zup
  by_cases h1 : k' = k ∧ j' = j
  · obtain ⟨rfl, rfl⟩ := h1
    by_cases h2 : s' = lo
    · subst h2
      rw [if_neg (by omega), if_pos (by simp), if_pos (by simp; omega)]
    · by_cases h3 : lo ≤ s' ∧ s' < up
      · rw [if_pos (by simp; omega), if_pos (by simp; omega)]
      · rw [if_neg (by omega), if_neg (by omega), if_neg (by omega)]
  · have h2 : ∀ q : Prop, ¬ (k' = k ∧ j' = j ∧ q) := fun q e => h1 ⟨e.1, e.2.1⟩
    rw [if_neg (h2 _), if_neg (h2 _), if_neg (h2 _)]
def RWi (y : zM) (pc : Nat) (ls : List (Option zV)) (hi : zI) (hr : zR) (x : Int) (hi' : zI) : Prop := ∀ P : Int → zI → Prop, P x hi' → WP y pc ls [] hi hr (zQ1i hr P)
section ZS
variable {hr : zR}
theorem fill_FateRow (x : Int) : ∀ (n : Nat) (hi : zI) (a : Int), 0 ≤ a → a + n = 64 → RWv mJ7_fill_53178 5 [some (.inr (some (8, 0))), some (.inl x), some (.inl a), some (.inl 64)] hi hr (zfil hi 8 0 a 64 x) := by
  intro n
  induction n with
  | zero =>
    intro hi a h0 h1 P hP
    rw [zfil_0 _ _ _ _ _ _ (by omega)] at hP
    refine GJ7_fill_53178_FateRow_5 x a 64 ?_
    (repeat' first | with_reducible apply And.intro | with_reducible intro _) <;> first | omega | exact hP | (exfalso; omega)
  | succ n ih =>
    intro hi a h0 h1 P hP
    refine GJ7_fill_53178_FateRow_5 x a 64 ⟨fun h => absurd h (by omega), fun _ => ⟨⟨h0, by omega⟩, ⟨by omega, by omega⟩, ?_⟩⟩
    refine ih _ (a + 1) (by omega) (by omega) P ?_
    rw [zfil_s _ _ _ _ _ _ (by omega)]
    exact hP
theorem fates_loop (hM : RSm hr) (l : Int) : ∀ (n : Nat) (hi : zI) (a : Int), 0 ≤ a → a + n = 64 → RWi mX12_fates 20 [some (.inr (some (37, 0))), some (.inl l), some (.inl a)] hi hr 1 (zfil hi 45 0 a 64 0) := by
  intro n
  induction n with
  | zero =>
    intro hi a h0 h1 P hP
    rw [zfil_0 _ _ _ _ _ _ (by omega)] at hP
    refine GX12_fates_20 hM l a ?_
    (repeat' first | with_reducible apply And.intro | with_reducible intro _) <;> first | omega | exact hP | (exfalso; omega)
  | succ n ih =>
    intro hi a h0 h1 P hP
    refine GX12_fates_20 hM l a ⟨fun h => absurd h (by omega), fun _ => ⟨⟨h0, by omega⟩, ⟨by omega, by omega⟩, ?_⟩⟩
    refine ih _ (a + 1) (by omega) (by omega) P ?_
    rw [zfil_s _ _ _ _ _ _ (by omega)]
    exact hP
variable {hi : zI}
theorem clearFates_run (hR : RSc hr) {l : Int} (h0 : 1 ≤ l) (h1 : l ≤ 64) : R1i mX5_clearFates [.inr (some (7, 0)), .inl l] hi hr 1 (zup (zfil hi 8 0 0 64 0) 7 0 2 l) := by
  intro P hP
  refine GX5_clearFates hR l ⟨fun h => absurd h (by omega), fun _ => ⟨fun _ => ?_, fun h => absurd h (by omega)⟩⟩
  exact GJ7_fill_53178_FateRow 0 (fill_FateRow 0 64 hi 0 (by omega) (by omega) _ hP)
theorem sim_place (h : RLb hi hr hi) : SimI mX11_place mX12_place [] hi hr :=
  SimI.of0 (x := hi 1 0 8) (fun P hP => GX11_place hP) (fun P hP => GX12_place (by rw [← h.2.2.2.2.1.2.2.2.2]; exact hP)) h
theorem sim_back (h : RLb hi hr hi) (l : Int) : SimI mX11_back mX12_back [.inl l] hi hr := by
  have hR := h.1
  obtain ⟨t1, t2, t3, t4, t5⟩ := h.2.2.2.2.1
  by_cases hb : 0 ≤ l ∧ l ≤ hi 37 0 2
  · refine SimI.of1 (x := hi 2 0 1 - l) (c' := zup hi 2 0 1 (hi 2 0 1 - l)) (m' := zup (zup hi 2 0 1 (hi 2 0 1 - l)) 37 0 2 (hi 37 0 2 - l)) (fun P hP => GX11_back hR l ?_) (fun P hP => GX12_back l ?_) ?_
    · (repeat' first | with_reducible apply And.intro | with_reducible intro _) <;> first | omega | exact hP | (exfalso; omega)
    · rw [zup_k _ _ _ _ _ _ (by decide)]
      rw [t1] at hP ⊢
      (repeat' first | with_reducible apply And.intro | with_reducible intro _) <;> first | omega | exact hP | (exfalso; omega)
    · obtain ⟨h1, h2, h3, h4, h5, h6⟩ := h
      refine ⟨h1, h2, h3, h4, ?_, h6⟩
      refine ⟨?_, ?_, ?_, fun i i0 i1 => ?_, t5⟩
      · show hi 2 0 1 - l = hi 37 0 2 - l
        omega
      · show 0 ≤ hi 37 0 2 - l
        omega
      · show hi 37 0 2 - l ≤ 400
        omega
      · have i2 : i < hi 37 0 2 - l := i1
        exact t4 i i0 (by omega)
  · refine SimI.of1 (x := -1) (c' := hi) (m' := hi) (fun P hP => GX11_back hR l ?_) (fun P hP => GX12_back l ?_) h
    · (repeat' first | with_reducible apply And.intro | with_reducible intro _) <;> first | omega | exact hP | (exfalso; omega)
    · (repeat' first | with_reducible apply And.intro | with_reducible intro _) <;> first | omega | exact hP | (exfalso; omega)
theorem sim_fates (h : RLb hi hr hi) (l : Int) : SimI mX11_fates mX12_fates [.inl l] hi hr := by
  have hR := h.1
  have hM := h.2.1
  obtain ⟨t1, t2, t3, t4⟩ := h.2.2.2.2.2.1
  by_cases hb : 1 ≤ l ∧ l ≤ 64
  · refine SimI.of1 (x := 1) (c' := zup (zfil hi 8 0 0 64 0) 7 0 2 l) (m' := zfil (zup (zup (zfil hi 8 0 0 64 0) 7 0 2 l) 37 0 17 l) 45 0 0 64 0) (fun P hP => GX11_fates hR l ?_) (fun P hP => GX12_fates l ?_) ?_
    · exact clearFates_run hR hb.1 hb.2 _ ⟨Or.inr rfl, hP⟩
    · refine ⟨fun h => absurd h (by omega), fun _ => ⟨fun _ => ?_, fun h => absurd h (by omega)⟩⟩
      exact fates_loop hM l 64 _ 0 (by omega) (by omega) P hP
    · obtain ⟨h1, h2, h3, h4, h5, h6, h7⟩ := h
      refine ⟨h1, h2, h3, h4, h5, ?_, h7⟩
      refine ⟨rfl, hb.1, hb.2, fun i i0 i1 => ?_⟩
      have i2 : i < l := i1
      have e1 : zfil (zup (zup (zfil hi 8 0 0 64 0) 7 0 2 l) 37 0 17 l) 45 0 0 64 0 45 0 i = 0 := by
        unfold zfil
        rw [if_pos (by simp; omega)]
      have e2 : zfil (zup (zup (zfil hi 8 0 0 64 0) 7 0 2 l) 37 0 17 l) 45 0 0 64 0 8 0 i = 0 := by
        show zfil hi 8 0 0 64 0 8 0 i = 0
        unfold zfil
        rw [if_pos (by simp; omega)]
      rw [e1, e2]
      omega
  · refine SimI.of1 (x := 0) (c' := hi) (m' := hi) (fun P hP => GX11_fates hR l ?_) (fun P hP => GX12_fates l ?_) h
    · refine GX5_clearFates hR l ?_
      have hP : ((0 : Int) = 0 ∨ (0 : Int) = 1) ∧ P 0 hi := ⟨Or.inl rfl, hP⟩
      refine ⟨fun _ => hP, fun _ => ⟨fun h => absurd h (by omega), fun _ => hP⟩⟩
    · (repeat' first | with_reducible apply And.intro | with_reducible intro _) <;> first | omega | exact hP | (exfalso; omega)
theorem sim_fate (h : RLb hi hr hi) (l l2 : Int) : SimI mX11_fate mX12_fate [.inl l, .inl l2] hi hr := by
  have hR := h.1
  have hM := h.2.1
  obtain ⟨t1, t2, t3, t4⟩ := h.2.2.2.2.2.1
  by_cases hb : 0 ≤ l ∧ l < hi 37 0 17 ∧ 0 ≤ l2 ∧ l2 ≤ 15
  · refine SimI.of1 (x := 1) (c' := zup hi 8 0 l l2) (m' := zup (zup hi 8 0 l l2) 45 0 l l2) (fun P hP => GX11_fate hR l l2 (GX5_setFate hR l l2 ?_)) (fun P hP => GX12_fate hM l l2 ?_) ?_
    · have hP : ((1 : Int) = 0 ∨ (1 : Int) = 1) ∧ P 1 (zup hi 8 0 l l2) := ⟨Or.inr rfl, hP⟩
      rw [t1]
      refine ⟨fun h => absurd h (by omega), fun _ => ⟨fun h => absurd h (by omega), fun _ => ⟨fun h => absurd h (by omega), fun _ => ⟨fun h => absurd h (by omega), fun _ => ⟨fun _ => ⟨⟨by omega, by omega⟩, hP⟩, fun h => absurd h (by omega)⟩⟩⟩⟩⟩
    · rw [zup_k _ _ _ _ _ _ (by decide)]
      (repeat' first | with_reducible apply And.intro | with_reducible intro _) <;> first | omega | exact hP | (exfalso; omega)
    · obtain ⟨h1, h2, h3, h4, h5, h6, h7⟩ := h
      refine ⟨h1, h2, h3, h4, h5, ⟨t1, t2, t3, fun i i0 i1 => ?_⟩, h7⟩
      have i2 : i < hi 37 0 17 := i1
      have e1 : zup (zup hi 8 0 l l2) 45 0 l l2 45 0 i = if i = l then l2 else hi 45 0 i := by
        rw [zup_at, zup_k _ _ _ _ _ _ (by decide)]
      have e2 : zup (zup hi 8 0 l l2) 45 0 l l2 8 0 i = if i = l then l2 else hi 8 0 i := by
        rw [zup_k _ _ _ _ _ _ (by decide), zup_at]
      rw [e1, e2]
      have := t4 i i0 i2
      split <;> omega
  · refine SimI.of1 (x := 0) (c' := hi) (m' := hi) (fun P hP => GX11_fate hR l l2 (GX5_setFate hR l l2 ?_)) (fun P hP => GX12_fate hM l l2 ?_) h
    · have hP : ((0 : Int) = 0 ∨ (0 : Int) = 1) ∧ P 0 hi := ⟨Or.inl rfl, hP⟩
      rw [t1]
      refine ⟨fun _ => hP, fun _ => ⟨fun _ => hP, fun _ => ⟨fun _ => hP, fun _ => ⟨fun _ => hP, fun _ => ⟨fun h => absurd h (by omega), fun _ => hP⟩⟩⟩⟩⟩
    · (repeat' first | with_reducible apply And.intro | with_reducible intro _) <;> first | omega | exact hP | (exfalso; omega)
end ZS
