/-! who waits for a cell: A the cells of a plan's acts 1 .. n, kn the acts known to be done -/
def lastF (A : Int → Int) : Nat → Int
  | 0 => 1
  | k + 1 => if A (k + 1) ≠ -1 then k + 1 else lastF A k
def fnoF (A : Int → Int) (n kn : Int) : Int := if n ≤ kn then n + 1 else lastF A kn.toNat
def nxtF (A : Int → Int) (c lo : Int) : Nat → Int
  | 0 => 0
  | k + 1 => if A lo = c then lo else nxtF A c (lo + 1) k
def ctA (A : Int → Int) (c lo : Int) : Nat → Int
  | 0 => 0
  | k + 1 => (if A lo = c then 1 else 0) + ctA A c (lo + 1) k
def Ovr (A : Int → Int) (n kn i : Int) : Prop := (∃ k, i < k ∧ k ≤ n ∧ A k ≠ -1 ∧ k ≤ kn) ∨ ((∀ k, i < k → k ≤ n → A k = -1) ∧ kn = n)
theorem lastF_spec (A : Int → Int) : ∀ k : Nat, (lastF A k = 1 ∧ ∀ i : Int, 1 ≤ i → i ≤ k → A i = -1) ∨ (1 ≤ lastF A k ∧ lastF A k ≤ k ∧ A (lastF A k) ≠ -1 ∧ ∀ i : Int, lastF A k < i → i ≤ k → A i = -1) := by
  intro k
  induction k with
  | zero => exact Or.inl ⟨rfl, fun i h1 h2 => by omega⟩
  | succ k ih =>
    unfold lastF
    by_cases h : A ((k : Int) + 1) ≠ -1
    · rw [if_pos h]
      exact Or.inr ⟨by omega, by omega, h, fun i h1 h2 => by omega⟩
    · rw [if_neg h]
      have h : A ((k : Int) + 1) = -1 := Decidable.not_not.mp h
      have key : ∀ i : Int, i ≤ ((k + 1 : Nat) : Int) → ¬ i ≤ (k : Int) → A i = -1 := fun i h1 h2 => by
        rw [show i = (k : Int) + 1 by omega]; exact h
      rcases ih with ⟨a, b⟩ | ⟨a, b, c, d⟩
      · refine Or.inl ⟨a, fun i h1 h2 => ?_⟩
        by_cases h3 : i ≤ (k : Int)
        · exact b i h1 h3
        · exact key i h2 h3
      · refine Or.inr ⟨a, by omega, c, fun i h1 h2 => ?_⟩
        by_cases h3 : i ≤ (k : Int)
        · exact d i h1 h3
        · exact key i h2 h3
theorem fnoF_pos (A : Int → Int) {n kn : Int} (hn : 0 ≤ n) : 1 ≤ fnoF A n kn ∧ (kn ≤ n → fnoF A n kn ≤ n + 1) := by
  unfold fnoF
  split
  · omega
  · rcases lastF_spec A kn.toNat with ⟨a, b⟩ | ⟨a, b, c, d⟩
    · omega
    · omega
theorem ovr_iff {A : Int → Int} {n kn i : Int} (hk : kn ≤ n) (hk0 : 0 ≤ kn) (h0 : 1 ≤ i) (h1 : i ≤ n) : Ovr A n kn i ↔ i < fnoF A n kn := by
  unfold fnoF
  by_cases hn : n ≤ kn
  · rw [if_pos hn]
    refine ⟨fun _ => by omega, fun _ => ?_⟩
    by_cases h : ∃ k, i < k ∧ k ≤ n ∧ A k ≠ -1
    · obtain ⟨k, a, b, c⟩ := h
      exact Or.inl ⟨k, a, b, c, by omega⟩
    · refine Or.inr ⟨fun k a b => ?_, by omega⟩
      by_cases q : A k = -1
      · exact q
      · exact absurd ⟨k, a, b, q⟩ h
  · rw [if_neg hn]
    rcases lastF_spec A kn.toNat with ⟨a, b⟩ | ⟨a, b, c, d⟩
    · rw [a]
      refine ⟨fun h => ?_, fun h => by omega⟩
      rcases h with ⟨k, e1, e2, e3, e4⟩ | ⟨-, e⟩
      · exact absurd (b k (by omega) (by omega)) e3
      · omega
    · refine ⟨fun h => ?_, fun h => Or.inl ⟨_, h, by omega, c, by omega⟩⟩
      rcases h with ⟨k, e1, e2, e3, e4⟩ | ⟨-, e⟩
      · by_cases q : k ≤ lastF A kn.toNat
        · omega
        · exact absurd (d k (by omega) (by omega)) e3
      · omega
theorem nxtF_spec (A : Int → Int) (c : Int) : ∀ (k : Nat) (lo : Int), 1 ≤ lo → (nxtF A c lo k = 0 ∧ ∀ i, lo ≤ i → i < lo + k → A i ≠ c) ∨ (lo ≤ nxtF A c lo k ∧ nxtF A c lo k < lo + k ∧ A (nxtF A c lo k) = c ∧ ∀ i, lo ≤ i → i < nxtF A c lo k → A i ≠ c) := by
  intro k
  induction k with
  | zero => exact fun lo h => Or.inl ⟨rfl, fun i h1 h2 => by omega⟩
  | succ k ih =>
    intro lo h
    unfold nxtF
    by_cases q : A lo = c
    · rw [if_pos q]
      exact Or.inr ⟨by omega, by omega, q, fun i h1 h2 => by omega⟩
    · rw [if_neg q]
      rcases ih (lo + 1) (by omega) with ⟨a, b⟩ | ⟨a, b, d, e⟩
      · refine Or.inl ⟨a, fun i h1 h2 => ?_⟩
        by_cases h3 : i = lo
        · subst h3; exact q
        · exact b i (by omega) (by omega)
      · refine Or.inr ⟨by omega, by omega, d, fun i h1 h2 => ?_⟩
        by_cases h3 : i = lo
        · subst h3; exact q
        · exact e i (by omega) (by omega)
theorem ctA_b (A : Int → Int) (c : Int) : ∀ (k : Nat) (lo : Int), 0 ≤ ctA A c lo k ∧ ctA A c lo k ≤ k := by
  intro k
  induction k with
  | zero => exact fun lo => ⟨by simp [ctA], by simp [ctA]⟩
  | succ k ih =>
    intro lo
    have := ih (lo + 1)
    unfold ctA
    split <;> omega
theorem ctA_cong {A B : Int → Int} (c : Int) : ∀ (k : Nat) (lo : Int), (∀ i, lo ≤ i → i < lo + k → A i = B i) → ctA A c lo k = ctA B c lo k := by
  intro k
  induction k with
  | zero => exact fun lo _ => rfl
  | succ k ih =>
    intro lo h
    unfold ctA
    rw [h lo (by omega) (by omega), ih (lo + 1) (fun i h1 h2 => h i (by omega) (by omega))]
theorem nxtF_cong {A B : Int → Int} (c : Int) : ∀ (k : Nat) (lo : Int), (∀ i, lo ≤ i → i < lo + k → A i = B i) → nxtF A c lo k = nxtF B c lo k := by
  intro k
  induction k with
  | zero => exact fun lo _ => rfl
  | succ k ih =>
    intro lo h
    unfold nxtF
    rw [h lo (by omega) (by omega), ih (lo + 1) (fun i h1 h2 => h i (by omega) (by omega))]
theorem lastF_cong {A B : Int → Int} : ∀ k : Nat, (∀ i : Int, 1 ≤ i → i ≤ k → A i = B i) → lastF A k = lastF B k := by
  intro k
  induction k with
  | zero => exact fun _ => rfl
  | succ k ih =>
    intro h
    unfold lastF
    rw [h ((k : Int) + 1) (by omega) (by omega), ih (fun i h1 h2 => h i h1 (by omega))]
/-- the acts known to be done of the latest plan -/
def knF (m75 m76 m77 : Int → Int) (v : Int) : Int := if m75 v = m77 v then m76 v else 0
section ZS
variable {hi : zI} {hr : zR}
theorem known_run (hM : RSm hr) {v : Int} (hv : 0 ≤ v ∧ v < 6) : R0i mX12_known [.inr (some (37, 0)), .inl v] hi hr (knF (hi 75 0) (hi 76 0) (hi 77 0) v) := by
  intro P hP
  refine GX12_known hM v ⟨hv, hv, ?_⟩
  unfold knF at hP
  by_cases h : hi 75 0 v = hi 77 0 v
  · rw [if_pos h] at hP
    exact ⟨fun q => absurd h q, fun _ => ⟨hv, hP⟩⟩
  · rw [if_neg h] at hP
    exact ⟨fun _ => hP, fun q => absurd q h⟩
theorem actsKnown_run {v : Int} (hv : 0 ≤ v ∧ v < 6) : R0i mX0_actsKnown [.inr (some (24, v))] hi hr (if hi 24 v 3 = hi 24 v 1 then hi 24 v 4 else 0) := by
  intro P hP
  refine GX0_actsKnown v hv ?_
  by_cases h : hi 24 v 3 = hi 24 v 1
  · rw [if_pos h] at hP
    exact ⟨fun q => absurd h q, fun _ => hP⟩
  · rw [if_neg h] at hP
    exact ⟨fun _ => hP, fun q => absurd q h⟩
theorem isDoneWhole_run (hR : RSc hr) {v kn : Int} (hv : 0 ≤ v ∧ v < 6) (hk : (if hi 24 v 3 = hi 24 v 1 then hi 24 v 4 else 0) = kn) (x : Int) (h : (x = 1 ∧ hi 25 v 5 ≤ kn) ∨ (x = 0 ∧ kn < hi 25 v 5)) : R0i mX0_isDoneWhole [.inr (some (24, v))] hi hr x := by
  intro P hP
  refine GX0_isDoneWhole hR v hv (actsKnown_run hv _ ?_)
  rw [hk]
  rcases h with ⟨rfl, h⟩ | ⟨rfl, h⟩
  · (repeat' first | with_reducible apply And.intro | with_reducible intro _) <;> first | omega | exact hP | (exfalso; omega)
  · (repeat' first | with_reducible apply And.intro | with_reducible intro _) <;> first | omega | exact hP | (exfalso; omega)
theorem fno_loop (hR : RSc hr) {v : Int} (hv : 0 ≤ v ∧ v < 6) (hn : rtOK (hi 25) (hi 28) v) : ∀ k : Nat, (k : Int) ≤ hi 25 v 5 → ∀ P : Int → Prop, P (lastF (aC (hi 25) (hi 26) (hi 28) v) k) → WP mX0_firstActNotOver 22 [some (.inr (some (24, v))), some (.inl (k : Int))] [] hi hr (zQ0i hi hr P) := by
  have hn3 := hn.2.2.1
  intro k
  induction k with
  | zero =>
    intro _ P hP
    exact GX0_firstActNotOver_22 hR v _ hv ⟨fun _ => hP, fun q => absurd q (by decide)⟩
  | succ k ih =>
    intro hk P hP
    refine GX0_firstActNotOver_22 hR v _ hv ⟨fun q => absurd q (by omega), fun _ => ?_⟩
    refine cellOfAct_run hR hv hn (aC (hi 25) (hi 26) (hi 28) v ((k + 1 : Nat) : Int)) (Or.inl ⟨rfl, by omega, by omega⟩) _ ?_
    unfold lastF at hP
    have e : ((k + 1 : Nat) : Int) = (k : Int) + 1 := by omega
    rw [e]
    by_cases h : aC (hi 25) (hi 26) (hi 28) v ((k : Int) + 1) ≠ -1
    · rw [if_pos h] at hP
      exact ⟨fun q => absurd q h, fun _ => hP⟩
    · rw [if_neg h] at hP
      refine ⟨fun _ => ⟨⟨by omega, by omega⟩, ?_⟩, fun q => absurd q h⟩
      rw [show (k : Int) + 1 + -1 = k by omega]
      exact ih (by omega) P hP
theorem fno_run (hR : RSc hr) {v kn : Int} (hv : 0 ≤ v ∧ v < 6) (hn : 0 ≤ hi 25 v 5 ∧ rtOK (hi 25) (hi 28) v) (hk : (if hi 24 v 3 = hi 24 v 1 then hi 24 v 4 else 0) = kn) (hk0 : 0 ≤ kn) : R0i mX0_firstActNotOver [.inr (some (24, v))] hi hr (fnoF (aC (hi 25) (hi 26) (hi 28) v) (hi 25 v 5) kn) := by
  have hn3 := hn.2.2.2.1
  intro P hP
  unfold fnoF at hP
  refine GX0_firstActNotOver hR v hv ?_
  by_cases h : hi 25 v 5 ≤ kn
  · rw [if_pos h] at hP
    exact isDoneWhole_run hR hv hk 1 (by omega) _ ⟨fun q => absurd q (by decide), fun _ => ⟨⟨by omega, by omega⟩, hP⟩⟩
  · rw [if_neg h] at hP
    refine isDoneWhole_run hR hv hk 0 (by omega) _ ⟨fun _ => ?_, fun q => absurd rfl q⟩
    refine actsKnown_run hv _ ?_
    rw [hk]
    have := fno_loop hR hv hn.2 kn.toNat (by omega) P hP
    rw [show ((kn.toNat : Nat) : Int) = kn by omega] at this
    exact this
theorem nextActTo_loop (hR : RSc hr) {v c : Int} (hv : 0 ≤ v ∧ v < 6) (hn : rtOK (hi 25) (hi 28) v) : ∀ (k : Nat) (lo : Int), 1 ≤ lo → lo + k = hi 25 v 5 + 1 → ∀ P : Int → Prop, P (nxtF (aC (hi 25) (hi 26) (hi 28) v) c lo k) → WP mX0_nextActTo 5 [some (.inr (some (24, v))), some (.inl c), some (.inl lo)] [] hi hr (zQ0i hi hr P) := by
  have hn3 := hn.2.2.1
  intro k
  induction k with
  | zero =>
    intro lo h0 h1 P hP
    exact GX0_nextActTo_5 hR v c lo hv ⟨fun _ => hP, fun q => absurd q (by omega)⟩
  | succ k ih =>
    intro lo h0 h1 P hP
    refine GX0_nextActTo_5 hR v c lo hv ⟨fun q => absurd q (by omega), fun _ => ?_⟩
    refine cellOfAct_run hR hv hn (aC (hi 25) (hi 26) (hi 28) v lo) (Or.inl ⟨rfl, by omega, by omega⟩) _ ?_
    unfold nxtF at hP
    by_cases h : aC (hi 25) (hi 26) (hi 28) v lo = c
    · rw [if_pos h] at hP
      exact ⟨fun q => absurd h q, fun _ => hP⟩
    · rw [if_neg h] at hP
      exact ⟨fun _ => ⟨⟨by omega, by omega⟩, ih (lo + 1) (by omega) (by omega) P hP⟩, fun q => absurd q h⟩
theorem nextActTo_run (hR : RSc hr) {v kn c : Int} (hv : 0 ≤ v ∧ v < 6) (hn : 0 ≤ hi 25 v 5 ∧ rtOK (hi 25) (hi 28) v) (hk : (if hi 24 v 3 = hi 24 v 1 then hi 24 v 4 else 0) = kn) (hk0 : 0 ≤ kn) (hk1 : kn ≤ hi 25 v 5) : R0i mX0_nextActTo [.inr (some (24, v)), .inl c] hi hr (nxtF (aC (hi 25) (hi 26) (hi 28) v) c (fnoF (aC (hi 25) (hi 26) (hi 28) v) (hi 25 v 5) kn) (hi 25 v 5 + 1 - fnoF (aC (hi 25) (hi 26) (hi 28) v) (hi 25 v 5) kn).toNat) := by
  have hn3 := hn.2.2.2.1
  intro P hP
  have h := fnoF_pos (aC (hi 25) (hi 26) (hi 28) v) (kn := kn) hn.1
  refine GX0_nextActTo v c hv (fno_run hR hv hn hk hk0 _ ?_)
  exact nextActTo_loop hR hv hn.2 _ _ h.1 (by have := h.2 hk1; omega) P hP
theorem openActsTo_loop (hR : RSc hr) {v c : Int} (hv : 0 ≤ v ∧ v < 6) (hn : rtOK (hi 25) (hi 28) v) : ∀ (k : Nat) (lo a : Int), 1 ≤ lo → lo + k = hi 25 v 5 + 1 → 0 ≤ a → a ≤ lo → ∀ P : Int → Prop, P (a + ctA (aC (hi 25) (hi 26) (hi 28) v) c lo k) → WP mX0_openActsTo 7 [some (.inr (some (24, v))), some (.inl c), some (.inl a), some (.inl lo)] [] hi hr (zQ0i hi hr P) := by
  have hn3 := hn.2.2.1
  intro k
  induction k with
  | zero =>
    intro lo a h0 h1 h2 h3 P hP
    refine GX0_openActsTo_7 hR v c a lo hv ⟨fun _ => ?_, fun q => absurd q (by omega)⟩
    simpa [ctA] using hP
  | succ k ih =>
    intro lo a h0 h1 h2 h3 P hP
    refine GX0_openActsTo_7 hR v c a lo hv ⟨fun q => absurd q (by omega), fun _ => ?_⟩
    refine cellOfAct_run hR hv hn (aC (hi 25) (hi 26) (hi 28) v lo) (Or.inl ⟨rfl, by omega, by omega⟩) _ ?_
    unfold ctA at hP
    by_cases h : aC (hi 25) (hi 26) (hi 28) v lo = c
    · rw [if_pos h, ← Int.add_assoc] at hP
      exact ⟨fun q => absurd h q, fun _ => ⟨⟨by omega, by omega⟩, ⟨by omega, by omega⟩, ih (lo + 1) (a + 1) (by omega) (by omega) (by omega) (by omega) P hP⟩⟩
    · rw [if_neg h, Int.zero_add] at hP
      exact ⟨fun _ => ⟨⟨by omega, by omega⟩, ih (lo + 1) a (by omega) (by omega) h2 (by omega) P hP⟩, fun q => absurd q h⟩
theorem openActsTo_run (hR : RSc hr) {v kn c : Int} (hv : 0 ≤ v ∧ v < 6) (hn : 0 ≤ hi 25 v 5 ∧ rtOK (hi 25) (hi 28) v) (hk : (if hi 24 v 3 = hi 24 v 1 then hi 24 v 4 else 0) = kn) (hk0 : 0 ≤ kn) (hk1 : kn ≤ hi 25 v 5) : R0i mX0_openActsTo [.inr (some (24, v)), .inl c] hi hr (ctA (aC (hi 25) (hi 26) (hi 28) v) c (fnoF (aC (hi 25) (hi 26) (hi 28) v) (hi 25 v 5) kn) (hi 25 v 5 + 1 - fnoF (aC (hi 25) (hi 26) (hi 28) v) (hi 25 v 5) kn).toNat) := by
  have hn3 := hn.2.2.2.1
  intro P hP
  have h := fnoF_pos (aC (hi 25) (hi 26) (hi 28) v) (kn := kn) hn.1
  refine GX0_openActsTo v c hv (fno_run hR hv hn hk hk0 _ ?_)
  exact openActsTo_loop hR hv hn.2 (hi 25 v 5 + 1 - fnoF (aC (hi 25) (hi 26) (hi 28) v) (hi 25 v 5) kn).toNat _ 0 h.1 (by have := h.2 hk1; omega) (by omega) (by omega) P (by rw [Int.zero_add]; exact hP)
end ZS
