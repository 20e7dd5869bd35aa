/-- the reference's three scratch numbers -/
def wtS (h : zI) (w f a : Int) : zI := fun k j s => if k = 37 ∧ j = 0 ∧ s = 62 then w else if k = 37 ∧ j = 0 ∧ s = 63 then f else if k = 37 ∧ j = 0 ∧ s = 64 then a else h k j s
theorem wtS_0 (h : zI) (w f a : Int) : zup (zup (zup h 37 0 62 w) 37 0 63 f) 37 0 64 a = wtS h w f a := by
  funext k j s
  unfold zup wtS
  by_cases h1 : k = 37 ∧ j = 0
  · obtain ⟨rfl, rfl⟩ := h1
    by_cases e1 : s = 62
    · subst e1; simp
    · by_cases e2 : s = 63
      · subst e2; simp
      · simp [e1, e2]
  · have h2 : ∀ q : Prop, ¬ (k = 37 ∧ j = 0 ∧ q) := fun q e => h1 ⟨e.1, e.2.1⟩
    simp only [h2, if_false]
theorem wtS_w (h : zI) (w f a w2 : Int) : zup (wtS h w f a) 37 0 62 w2 = wtS h w2 f a := by
  rw [← wtS_0, ← wtS_0]
  funext k j s
  unfold zup
  by_cases e1 : k = 37 ∧ j = 0 ∧ s = 62
  · obtain ⟨rfl, rfl, rfl⟩ := e1
    simp
  · simp only [e1, if_false]
theorem wtS_3 (h : zI) (w f a w2 f2 a2 : Int) : zup (zup (zup (wtS h w f a) 37 0 62 w2) 37 0 63 f2) 37 0 64 a2 = wtS h w2 f2 a2 := by
  rw [wtS_w, ← wtS_0, ← wtS_0]
  funext k j s
  unfold zup
  by_cases e1 : k = 37 ∧ j = 0 ∧ s = 64
  · rw [if_pos e1, if_pos e1]
  · by_cases e2 : k = 37 ∧ j = 0 ∧ s = 63
    · rw [if_neg e1, if_pos e2, if_neg e1, if_pos e2]
    · simp only [e1, e2, if_false]
theorem wtS_k (h : zI) (w f a : Int) {k : Nat} (hk : k ≠ 37) : wtS h w f a k = h k := by
  funext j s
  unfold wtS
  simp [hk]
theorem wtS_s (h : zI) (w f a : Int) {s : Int} (h1 : s ≠ 62) (h2 : s ≠ 63) (h3 : s ≠ 64) : wtS h w f a 37 0 s = h 37 0 s := by
  unfold wtS
  simp [h1, h2, h3]
section ZS
variable {hi : zI} {hr : zR}
theorem waitFor_in (hM : RSm hr) {c v : Int} (hc : c ≠ -1) (hv : 0 ≤ v ∧ v < 6) (hn : 0 ≤ hi 54 0 v ∧ hi 54 0 v ≤ 300) (hk : 0 ≤ knF (hi 75 0) (hi 76 0) (hi 77 0) v ∧ knF (hi 75 0) (hi 76 0) (hi 77 0) v ≤ hi 54 0 v) (hmo : ∀ i i', 1 ≤ i → i < i' → i' ≤ hi 54 0 v → hi 56 0 (301 * v + i) < hi 56 0 (301 * v + i'))
    {P : zI → Prop} {w1 f1 a1 : Int} (u3 : Option zV) (hP : ∀ u, WP mX12_waitFor 17 [some (.inr (some (37, 0))), some (.inl c), some (.inl (v + 1)), u] [] (wtS hi w1 f1 a1) hr (zQ1v hr P)) :
    ∀ (k : Nat) (i w f a : Int), 1 ≤ i → i + k = hi 54 0 v + 1 → 0 ≤ w → w ≤ 300 * v + i → (f = -1 ∨ (0 ≤ f ∧ f < 6 ∧ 1 ≤ a ∧ a ≤ 300)) →
      w1 = w + ctA (fun i => hi 55 0 (301 * v + i)) c (max i (fnoF (fun i => hi 55 0 (301 * v + i)) (hi 54 0 v) (knF (hi 75 0) (hi 76 0) (hi 77 0) v))) (hi 54 0 v + 1 - max i (fnoF (fun i => hi 55 0 (301 * v + i)) (hi 54 0 v) (knF (hi 75 0) (hi 76 0) (hi 77 0) v))).toNat →
      (f1, a1) = (if nxtF (fun i => hi 55 0 (301 * v + i)) c (max i (fnoF (fun i => hi 55 0 (301 * v + i)) (hi 54 0 v) (knF (hi 75 0) (hi 76 0) (hi 77 0) v))) (hi 54 0 v + 1 - max i (fnoF (fun i => hi 55 0 (301 * v + i)) (hi 54 0 v) (knF (hi 75 0) (hi 76 0) (hi 77 0) v))).toNat = 0 then (f, a) else
        if f = -1 ∨ hi 56 0 (301 * v + nxtF (fun i => hi 55 0 (301 * v + i)) c (max i (fnoF (fun i => hi 55 0 (301 * v + i)) (hi 54 0 v) (knF (hi 75 0) (hi 76 0) (hi 77 0) v))) (hi 54 0 v + 1 - max i (fnoF (fun i => hi 55 0 (301 * v + i)) (hi 54 0 v) (knF (hi 75 0) (hi 76 0) (hi 77 0) v))).toNat) < hi 56 0 (301 * f + a) then (v, nxtF (fun i => hi 55 0 (301 * v + i)) c (max i (fnoF (fun i => hi 55 0 (301 * v + i)) (hi 54 0 v) (knF (hi 75 0) (hi 76 0) (hi 77 0) v))) (hi 54 0 v + 1 - max i (fnoF (fun i => hi 55 0 (301 * v + i)) (hi 54 0 v) (knF (hi 75 0) (hi 76 0) (hi 77 0) v))).toNat) else (f, a)) →
      WP mX12_waitFor 27 [some (.inr (some (37, 0))), some (.inl c), some (.inl v), some (.inl i)] [] (wtS hi w f a) hr (zQ1v hr P) := by
  generalize hA : (fun i => hi 55 0 (301 * v + i)) = A
  generalize hx : fnoF A (hi 54 0 v) (knF (hi 75 0) (hi 76 0) (hi 77 0) v) = x
  have hx1 : 1 ≤ x ∧ x ≤ hi 54 0 v + 1 := by
    have := fnoF_pos A (kn := knF (hi 75 0) (hi 76 0) (hi 77 0) v) hn.1
    rw [hx] at this
    exact ⟨this.1, this.2 hk.2⟩
  have hov : ∀ i, 1 ≤ i → i ≤ hi 54 0 v → (Ovr A (hi 54 0 v) (knF (hi 75 0) (hi 76 0) (hi 77 0) v) i ↔ i < x) := fun i a b => by
    rw [← hx]; exact ovr_iff hk.2 hk.1 a b
  have hAi : ∀ i, hi 55 0 (301 * v + i) = A i := fun i => by rw [← hA]
  intro k
  induction k with
  | zero =>
    intro i w f a i1 ik w0 wb hf e1 e2
    have hm : (hi 54 0 v + 1 - max i x).toNat = 0 := by omega
    rw [hm] at e1 e2
    simp only [ctA, nxtF, if_true, Int.add_zero] at e1 e2
    obtain ⟨rfl, rfl⟩ := Prod.mk.inj e2
    subst e1
    refine GX12_waitFor_27 hM c v i ⟨hv, fun _ => ⟨⟨by omega, by omega⟩, hP _⟩, fun q => ?_⟩
    rw [wtS_k _ _ _ _ (by decide)] at q
    exact absurd q (by omega)
  | succ k ih =>
    intro i w f a i1 ik w0 wb hf e1 e2
    refine GX12_waitFor_27 hM c v i ?_
    rw [wtS_k _ _ _ _ (show (54 : Nat) ≠ 37 by decide), wtS_k _ _ _ _ (show (55 : Nat) ≠ 37 by decide), wtS_k _ _ _ _ (show (56 : Nat) ≠ 37 by decide)]
    have s62 : wtS hi w f a 37 0 62 = w := rfl
    have s63 : wtS hi w f a 37 0 63 = f := rfl
    have s64 : wtS hi w f a 37 0 64 = a := rfl
    rw [s62, s63, s64]
    refine ⟨hv, fun q => absurd q (by omega), fun _ => ⟨⟨by omega, by omega⟩, ⟨by omega, by omega⟩, ⟨by omega, by omega⟩, fun q => ⟨⟨by omega, by omega⟩, ?_⟩, fun q => ?_⟩⟩
    · rw [hAi] at q
      refine ih (i + 1) w f a (by omega) (by omega) w0 (by omega) hf ?_ ?_
      · by_cases hxi : x ≤ i
        · rw [show max i x = i by omega, show (hi 54 0 v + 1 - i).toNat = k + 1 by omega, ctA, if_neg q, Int.zero_add] at e1
          rw [show max (i + 1) x = i + 1 by omega, show (hi 54 0 v + 1 - (i + 1)).toNat = k by omega]
          exact e1
        · rw [show max (i + 1) x = max i x by omega]
          exact e1
      · by_cases hxi : x ≤ i
        · rw [show max i x = i by omega, show (hi 54 0 v + 1 - i).toNat = k + 1 by omega, nxtF, if_neg q] at e2
          rw [show max (i + 1) x = i + 1 by omega, show (hi 54 0 v + 1 - (i + 1)).toNat = k by omega]
          exact e2
        · rw [show max (i + 1) x = max i x by omega]
          exact e2
    · rw [hAi] at q
      by_cases hxi : x ≤ i
      · -- open
        have hno : ¬ Ovr A (hi 54 0 v) (knF (hi 75 0) (hi 76 0) (hi 77 0) v) i := fun h => by
          have := (hov i i1 (by omega)).mp h
          omega
        have ho := isOver_run (hi := wtS hi w f a) hM hv (by rw [wtS_k _ _ _ _ (by decide)]; exact hn) i1 (by rw [wtS_k _ _ _ _ (by decide)]; omega) 0 (Or.inr ⟨rfl, by
          rw [wtS_k _ _ _ _ (show (54 : Nat) ≠ 37 by decide), wtS_k _ _ _ _ (show (55 : Nat) ≠ 37 by decide), wtS_k _ _ _ _ (show (75 : Nat) ≠ 37 by decide), wtS_k _ _ _ _ (show (76 : Nat) ≠ 37 by decide), wtS_k _ _ _ _ (show (77 : Nat) ≠ 37 by decide), hA]
          exact hno⟩)
        rw [show max i x = i by omega, show (hi 54 0 v + 1 - i).toNat = k + 1 by omega] at e1 e2
        rw [ctA, if_pos q, ← Int.add_assoc] at e1
        rw [nxtF, if_pos q, if_neg (by omega)] at e2
        have rest : ∀ f2 a2 : Int, f2 ≠ -1 → (∀ i', i < i' → i' ≤ hi 54 0 v → ¬ hi 56 0 (301 * v + i') < hi 56 0 (301 * f2 + a2)) → (0 ≤ f2 ∧ f2 < 6 ∧ 1 ≤ a2 ∧ a2 ≤ 300) → (f1, a1) = (f2, a2) → WP mX12_waitFor 27 [some (.inr (some (37, 0))), some (.inl c), some (.inl v), some (.inl (i + 1))] [] (wtS hi (w + 1) f2 a2) hr (zQ1v hr P) := by
          intro f2 a2 hf2 hge hb he
          refine ih (i + 1) (w + 1) f2 a2 (by omega) (by omega) (by omega) (by omega) (Or.inr hb) ?_ ?_
          · rw [show max (i + 1) x = i + 1 by omega, show (hi 54 0 v + 1 - (i + 1)).toNat = k by omega]
            exact e1
          · rw [show max (i + 1) x = i + 1 by omega, show (hi 54 0 v + 1 - (i + 1)).toNat = k by omega]
            rcases nxtF_spec A c k (i + 1) (by omega) with ⟨b, -⟩ | ⟨b1, b2, b3, -⟩
            · rw [if_pos b]; exact he
            · rw [if_neg (by omega), if_neg]
              · exact he
              · rintro (h | h)
                · exact hf2 h
                · exact hge _ (by omega) (by omega) h
        refine ho _ ⟨fun _ => ⟨⟨by omega, by omega⟩, fun q2 => ⟨⟨by omega, by omega⟩, ?_⟩, fun q2 => ?_⟩, fun q2 => absurd rfl q2⟩
        · rw [if_pos (Or.inl q2)] at e2
          rw [wtS_3]
          exact rest v i (by omega) (fun i' a b h => by have := hmo i i' i1 a b; omega) ⟨by omega, by omega, by omega, by omega⟩ e2
        · have hf' : 0 ≤ f ∧ f < 6 ∧ 1 ≤ a ∧ a ≤ 300 := hf.elim (fun e => absurd e q2) id
          refine ⟨⟨by omega, by omega⟩, ⟨by omega, by omega⟩, ⟨by omega, by omega⟩, ⟨by omega, by omega⟩, ⟨by omega, by omega⟩, ⟨by omega, by omega⟩, fun q3 => ⟨⟨by omega, by omega⟩, ?_⟩, fun q3 => ⟨⟨by omega, by omega⟩, ?_⟩⟩
          · rw [if_pos (Or.inr q3)] at e2
            rw [wtS_3]
            exact rest v i (by omega) (fun i' a b h => by have := hmo i i' i1 a b; omega) ⟨by omega, by omega, by omega, by omega⟩ e2
          · rw [if_neg (by omega)] at e2
            rw [wtS_w]
            exact rest f a q2 (fun i' a b h => by have := hmo i i' i1 a b; omega) hf' e2
      · have hyes : Ovr A (hi 54 0 v) (knF (hi 75 0) (hi 76 0) (hi 77 0) v) i := (hov i i1 (by omega)).mpr (by omega)
        have ho := isOver_run (hi := wtS hi w f a) hM hv (by rw [wtS_k _ _ _ _ (by decide)]; exact hn) i1 (by rw [wtS_k _ _ _ _ (by decide)]; omega) 1 (Or.inl ⟨rfl, by
          rw [wtS_k _ _ _ _ (show (54 : Nat) ≠ 37 by decide), wtS_k _ _ _ _ (show (55 : Nat) ≠ 37 by decide), wtS_k _ _ _ _ (show (75 : Nat) ≠ 37 by decide), wtS_k _ _ _ _ (show (76 : Nat) ≠ 37 by decide), wtS_k _ _ _ _ (show (77 : Nat) ≠ 37 by decide), hA]
          exact hyes⟩)
        refine ho _ ⟨fun q2 => absurd q2 (by decide), fun _ => ⟨⟨by omega, by omega⟩, ?_⟩⟩
        refine ih (i + 1) w f a (by omega) (by omega) w0 (by omega) hf ?_ ?_
        · rw [show max (i + 1) x = max i x by omega]
          exact e1
        · rw [show max (i + 1) x = max i x by omega]
          exact e2
end ZS
