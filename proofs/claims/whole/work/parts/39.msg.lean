def RlVm (c36 : Int → Int → Int) (vn tk : Int) (m66 m67 m69 m70 m71 m72 m73 : Int → Int) : Prop :=
  ∀ v, 0 ≤ v → v < 6 → c36 v 0 = m67 v ∧ c36 v 1 = m69 v ∧ c36 v 2 = m70 v ∧ c36 v 3 = m71 v ∧ (m71 v = 0 ∨ m71 v = 1) ∧ (m71 v = 1 → c36 v 4 = m72 v) ∧ 0 ≤ c36 v 5 ∧ c36 v 5 ≤ tk + 1 ∧ (v < vn → ((m66 v = 0 ∧ c36 v 5 = m73 v + 1) ∨ (m66 v = 1 ∧ c36 v 5 = 0)) ∧ 0 ≤ m73 v ∧ m73 v ≤ tk)
/-- messages while they come: those before place i that are due have come -/
def RlGm (i : Int) (pi nm : Int → Int) (r9 : Int → Option (Nat × Int)) (c10 : Int → Int → Int) (sz : Int) (vn tk sent cm : Int) (m54 m55 m69 m70 m77 m59 m60 m61 m62 m63 m64 m65 : Int → Int) : Prop :=
  (∀ i, 0 ≤ i → i < 64 → r9 i = some (10, pi i) ∧ 0 ≤ pi i ∧ pi i < 64) ∧ (∀ i i', 0 ≤ i → i < i' → i' < 64 → pi i ≠ pi i') ∧
    0 ≤ sz ∧ sz ≤ 60 ∧ (∀ i i', 0 ≤ i → i < i' → i' < sz → nm i < nm i') ∧
    (∀ i, 0 ≤ i → i < sz → RlM1 (c10 (pi i)) vn tk 0 0 (nm i) sent m54 m55 m69 m70 m77) ∧
    cm = smI (fun j => c10 (pi j) 6 - (if j < i ∧ c10 (pi j) 5 = tk then 1 else 0)) sz.toNat ∧ 0 ≤ cm ∧ cm ≤ 120 ∧
    (∀ k, 0 ≤ k → k < cm → ∃ j x, 0 ≤ j ∧ j < sz ∧ 0 ≤ x ∧ x < c10 (pi j) 6 ∧ ¬ (j < i ∧ c10 (pi j) 5 = tk ∧ x = 0) ∧ m59 k = c10 (pi j) 5 + x ∧ m60 k = nm j ∧ m61 k = 1 - c10 (pi j) 0 ∧ m62 k = c10 (pi j) 1 ∧ m63 k = c10 (pi j) 2 ∧ m64 k = c10 (pi j) 3 ∧ m65 k = c10 (pi j) 4) ∧
    (∀ j x, 0 ≤ j → j < sz → 0 ≤ x → x < c10 (pi j) 6 → ¬ (j < i ∧ c10 (pi j) 5 = tk ∧ x = 0) → ∃ k, 0 ≤ k ∧ k < cm ∧ m59 k = c10 (pi j) 5 + x ∧ m60 k = nm j) ∧
    (∀ k k', 0 ≤ k → k < k' → k' < cm → m59 k ≠ m59 k' ∨ m60 k ≠ m60 k')
/-- the relation while messages come -/
def Mid (i : Int) (pi nm : Int → Int) (c : zI) (r : zR) (m : zI) : Prop := RSc r ∧ RSm r ∧
  (∃ jh : Int, (jh = 0 ∨ jh = 1) ∧ r 19 0 3 = some (23, jh) ∧ r 19 0 4 = some (23, 1 - jh)) ∧
  RlS (c 1 0 9) (c 1 0 10) (c 7 0 4) (c 7 0 5) (c 17 0 2) (m 37 0 61) (m 37 0 53) (m 37 0 35) (m 37 0 36) (m 37 0 10) (6 * m 37 0 61 + 0) (12 * m 37 0 61 + 0) ∧
  RlT (c 2 0) (c 3 0) (c 1 0 8) (m 37 0 2) (m 37 0 4) (m 38 0) ∧
  RlF (c 7 0 2) (c 8 0) (m 37 0 17) (m 45 0) ∧
  RlK (c 11 0) (c 12 0) (c 13 0) (c 14 0) (c 15 0) (c 16 0) (m 37 0 19) (m 37 0 20) (m 37 0 21) (m 37 0 9) (6 * m 37 0 61 + 0) (m 46 0) (m 47 0) (m 48 0) (m 49 0) (m 50 0) ∧
  (∃ jm : Int, (jm = 0 ∨ jm = 1) ∧ r 1 0 6 = some (30, jm) ∧ r 1 0 7 = some (30, 1 - jm) ∧
    RlP (c 30 jm) (c 31 jm) (c 32 jm) (c 33 jm) (c 34 jm) (c 35 jm) (m 37 0 5) (m 37 0 6) (m 37 0 9) (m 37 0 10) (m 39 0) (m 40 0) (m 41 0) (m 42 0)) ∧
  RlVm (c 36) (m 37 0 10) (m 37 0 61) (m 66 0) (m 67 0) (m 69 0) (m 70 0) (m 71 0) (m 72 0) (m 73 0) ∧
  RlA (c 24) (m 37 0 10) (m 37 0 19) (m 37 0 61) (m 74 0) (m 75 0) (m 76 0) (m 77 0) (m 78 0) (m 79 0) (m 80 0) ∧
  RlR (c 25) (c 26) (aC (c 25) (c 26) (c 28)) (c 28) (m 37 0 10) (m 37 0 61) (m 37 0 5 * m 37 0 6) (m 42 0) (m 51 0) (m 52 0) (m 53 0) (m 54 0) (m 55 0) (m 56 0) (m 77 0) ∧
  RlI (c 25) (m 37 0 10) (m 54 0) (m 55 0) (m 68 0) (m 69 0) (m 70 0) (m 71 0) (m 72 0) (m 75 0) (m 76 0) (m 77 0) (m 79 0) ∧
  RlGm i pi nm (r 9 0) (c 10) (c 7 0 3) (m 37 0 10) (m 37 0 61) (m 37 0 35) (m 37 0 37) (m 54 0) (m 55 0) (m 69 0) (m 70 0) (m 77 0) (m 59 0) (m 60 0) (m 61 0) (m 62 0) (m 63 0) (m 64 0) (m 65 0) ∧
  RlH (c 17 0 3) (c 17 0 4) (m 37 0 20) (m 37 0 19) (m 37 0 61) (m 37 0 5) (m 37 0 6) (m 37 0 10) (m 39 0) (m 41 0) (m 42 0) (m 51 0) (m 52 0) (m 53 0) (m 46 0) (m 47 0) ∧ RlJ (m 37 0 10) (m 37 0 20) (m 54 0) (m 69 0) (m 70 0) (m 74 0) (m 77 0)
theorem silUp {r : zR} (hR : RSc r) : ∀ (n : Nat) (v : Int) (c : zI), v + n = 6 → 0 ≤ v → (∀ u, v ≤ u → u < 6 → 0 ≤ c 36 u 5 ∧ c 36 u 5 ≤ 1000) →
    ∃ c1, (∀ k, k ≠ 36 → c1 k = c k) ∧ (∀ u s, c1 36 u s = if v ≤ u ∧ u < 6 ∧ s = 5 then c 36 u 5 + 1 else c 36 u s) ∧ ∀ P : zI → zR → Prop, WP mX11_takeMessages 31 [some (.inr (some (1, 0))), some (.inl 0), none] [] c1 r (zQ2v P) → WP mX11_takeMessages 2 [some (.inr (some (1, 0))), some (.inl v), none] [] c r (zQ2v P) := by
  intro n
  induction n with
  | zero =>
    intro v c hn hv hb
    refine ⟨c, fun _ _ => rfl, fun u s => ?_, fun P hP => GX11_takeMessages_2 hR v ⟨fun _ => hP, fun q => absurd q (by omega)⟩⟩
    rw [if_neg (by omega)]
  | succ n ih =>
    intro v c hn hv hb
    obtain ⟨c1, e1, e2, e3⟩ := ih (v + 1) (zup c 36 v 5 (c 36 v 5 + 1)) (by omega) (by omega) (fun u a b => by
      rw [zup_j _ _ _ _ _ _ (by omega)]
      exact hb u (by omega) b)
    have hv5 := hb v (by omega) (by omega)
    refine ⟨c1, fun k hk => (e1 k hk).trans (zup_kf _ _ _ _ hk), fun u s => ?_, fun P hP => GX11_takeMessages_2 hR v ⟨fun q => absurd q (by omega), fun _ => ⟨⟨hv, by omega⟩, ⟨by omega, by omega⟩, ⟨by omega, by omega⟩, e3 P hP⟩⟩⟩
    rw [e2, zup_v, zup_v]
    by_cases hu : u = v
    · subst hu
      rw [if_neg (by omega)]
      by_cases hs : s = 5
      · rw [if_pos ⟨rfl, hs⟩, if_pos ⟨by omega, by omega, hs⟩]
      · rw [if_neg (fun q => hs q.2), if_neg (fun q => hs q.2.2)]
    · rw [if_neg (show ¬ (u = v ∧ (5 : Int) = 5) from fun q => hu q.1), if_neg (show ¬ (u = v ∧ s = 5) from fun q => hu q.1)]
      by_cases hq : v ≤ u ∧ u < 6 ∧ s = 5
      · rw [if_pos hq, if_pos (by omega)]
      · rw [if_neg hq, if_neg (by omega)]
theorem heardNo : ∀ (n : Nat) (v : Int) (m : zI), v + n = m 37 0 10 → 0 ≤ v → m 37 0 10 ≤ 6 →
    ∃ m1, (∀ k, k ≠ 66 → m1 k = m k) ∧ (∀ u, m1 66 0 u = if v ≤ u ∧ u < m 37 0 10 then 0 else m 66 0 u) ∧ ∀ r, RSm r → ∀ P : zI → Prop, W0i mX12_nextComing [.inr (some (37, 0))] m1 r (fun x1 => WP mX12_messagesCome 28 [some (.inr (some (37, 0))), some (.inl x1), none] [] m1 r (zQ1v r P)) → WP mX12_messagesCome 2 [some (.inr (some (37, 0))), some (.inl v), none] [] m r (zQ1v r P) := by
  intro n
  induction n with
  | zero =>
    intro v m hn hv hb
    refine ⟨m, fun _ _ => rfl, fun u => ?_, fun r hM P hP => GX12_messagesCome_2 hM v ⟨fun _ => hP, fun q => absurd q (by omega)⟩⟩
    rw [if_neg (by omega)]
  | succ n ih =>
    intro v m hn hv hb
    obtain ⟨m1, e1, e2, e3⟩ := ih (v + 1) (zup m 66 0 v 0) (by show v + 1 + n = m 37 0 10; omega) (by omega) hb
    refine ⟨m1, fun k hk => (e1 k hk).trans (zup_kf _ _ _ _ hk), fun u => ?_, fun r hM P hP => GX12_messagesCome_2 hM v ⟨fun q => absurd q (by omega), fun _ => ⟨⟨hv, by omega⟩, ⟨by omega, by omega⟩, e3 r hM P hP⟩⟩⟩
    rw [e2]
    show (if v + 1 ≤ u ∧ u < m 37 0 10 then 0 else zup m 66 0 v 0 66 0 u) = _
    rw [zup_at]
    by_cases hu : u = v
    · rw [if_neg (by omega), if_pos hu, if_pos (by omega)]
    · rw [if_neg hu]
      by_cases hq : v ≤ u ∧ u < m 37 0 10
      · rw [if_pos hq, if_pos (by omega)]
      · rw [if_neg hq, if_neg (by omega)]
theorem silUpM : ∀ (n : Nat) (v : Int) (m : zI), v + n = m 37 0 10 → 0 ≤ v → m 37 0 10 ≤ 6 → (∀ u, v ≤ u → u < m 37 0 10 → 0 ≤ m 73 0 u ∧ m 73 0 u ≤ 1000) →
    ∃ m1, (∀ k, k ≠ 73 → m1 k = m k) ∧ (∀ u, m1 73 0 u = if v ≤ u ∧ u < m 37 0 10 then (if m 66 0 u = 0 then m 73 0 u + 1 else 0) else m 73 0 u) ∧ ∀ r, RSm r → ∀ (u2 : Option zV) (P : zI → Prop), P m1 → WP mX12_messagesCome 217 [some (.inr (some (37, 0))), some (.inl v), u2] [] m r (zQ1v r P) := by
  intro n
  induction n with
  | zero =>
    intro v m hn hv hb _
    refine ⟨m, fun _ _ => rfl, fun u => ?_, fun r hM u2 P hP => GX12_messagesCome_217 hM v u2 ⟨fun _ => hP, fun q => absurd q (by omega)⟩⟩
    rw [if_neg (by omega)]
  | succ n ih =>
    intro v m hn hv hb hc
    have h5 := hc v (by omega) (by omega)
    by_cases h6 : m 66 0 v = 0
    · obtain ⟨m1, e1, e2, e3⟩ := ih (v + 1) (zup m 73 0 v (m 73 0 v + 1)) (by show v + 1 + n = m 37 0 10; omega) (by omega) hb (fun u a b => by
        rw [zup_f _ _ _ _ _ _ (by omega)]
        exact hc u (by omega) b)
      refine ⟨m1, fun k hk => (e1 k hk).trans (zup_kf _ _ _ _ hk), fun u => ?_, fun r hM u2 P hP => GX12_messagesCome_217 hM v u2 ⟨fun q => absurd q (by omega), fun _ => ⟨⟨hv, by omega⟩, fun _ => ⟨⟨hv, by omega⟩, ⟨by omega, by omega⟩, ⟨hv, by omega⟩, ⟨by omega, by omega⟩, e3 r hM u2 P hP⟩, fun q => absurd h6 q⟩⟩⟩
      rw [e2]
      show (if v + 1 ≤ u ∧ u < m 37 0 10 then (if m 66 0 u = 0 then zup m 73 0 v (m 73 0 v + 1) 73 0 u + 1 else 0) else zup m 73 0 v (m 73 0 v + 1) 73 0 u) = _
      rw [zup_at]
      by_cases hu : u = v
      · rw [if_neg (by omega), if_pos hu, if_pos (by omega), hu, if_pos h6]
      · rw [if_neg hu]
        by_cases hq : v ≤ u ∧ u < m 37 0 10
        · rw [if_pos hq, if_pos (by omega)]
        · rw [if_neg hq, if_neg (by omega)]
    · obtain ⟨m1, e1, e2, e3⟩ := ih (v + 1) (zup m 73 0 v 0) (by show v + 1 + n = m 37 0 10; omega) (by omega) hb (fun u a b => by
        rw [zup_f _ _ _ _ _ _ (by omega)]
        exact hc u (by omega) b)
      refine ⟨m1, fun k hk => (e1 k hk).trans (zup_kf _ _ _ _ hk), fun u => ?_, fun r hM u2 P hP => GX12_messagesCome_217 hM v u2 ⟨fun q => absurd q (by omega), fun _ => ⟨⟨hv, by omega⟩, fun q => absurd q h6, fun _ => ⟨⟨hv, by omega⟩, ⟨by omega, by omega⟩, e3 r hM u2 P hP⟩⟩⟩⟩
      rw [e2]
      show (if v + 1 ≤ u ∧ u < m 37 0 10 then (if m 66 0 u = 0 then zup m 73 0 v 0 73 0 u + 1 else 0) else zup m 73 0 v 0 73 0 u) = _
      rw [zup_at]
      by_cases hu : u = v
      · rw [if_neg (by omega), if_pos hu, if_pos (by omega), hu, if_neg h6]
      · rw [if_neg hu]
        by_cases hq : v ≤ u ∧ u < m 37 0 10
        · rw [if_pos hq, if_pos (by omega)]
        · rw [if_neg hq, if_neg (by omega)]
/-- the next coming -/
def NX (m : zI) (x : Int) : Prop := (x = -1 ∧ ∀ k, 0 ≤ k → k < m 37 0 37 → m 59 0 k ≠ m 37 0 61) ∨ (0 ≤ x ∧ x < m 37 0 37 ∧ m 59 0 x = m 37 0 61 ∧ ∀ k, 0 ≤ k → k < m 37 0 37 → m 59 0 k = m 37 0 61 → m 60 0 x ≤ m 60 0 k)
theorem nextComing_from {r : zR} (hM : RSm r) {m : zI} (hc : m 37 0 37 ≤ 200) : ∀ (n : Nat) (a i : Int), a + n = m 37 0 37 → 0 ≤ a → ((i = -1 ∧ ∀ k, 0 ≤ k → k < a → m 59 0 k ≠ m 37 0 61) ∨ (0 ≤ i ∧ i < a ∧ m 59 0 i = m 37 0 61 ∧ ∀ k, 0 ≤ k → k < a → m 59 0 k = m 37 0 61 → m 60 0 i ≤ m 60 0 k)) →
    ∃ x, NX m x ∧ ∀ P : Int → Prop, P x → WP mX12_nextComing 4 [some (.inr (some (37, 0))), some (.inl i), some (.inl a)] [] m r (zQ0i m r P) := by
  intro n
  induction n with
  | zero =>
    intro a i hn ha h
    have e : a = m 37 0 37 := by omega
    rw [e] at h
    exact ⟨i, h, fun P hP => GX12_nextComing_4 hM i a ⟨fun _ => hP, fun q => absurd q (by omega)⟩⟩
  | succ n ih =>
    intro a i hn ha h
    have ha4 : 0 ≤ a ∧ a < 400 := by omega
    have hs : zInR (a + 1) := ⟨by omega, by omega⟩
    by_cases q1 : m 59 0 a = m 37 0 61
    · rcases h with ⟨h1, h2⟩ | ⟨h1, h2, h3, h4⟩
      · obtain ⟨x, x1, x2⟩ := ih (a + 1) a (by omega) (by omega) (Or.inr ⟨ha, by omega, q1, fun k b c d => by
          by_cases e : k = a
          · rw [e]; omega
          · exact absurd d (h2 k b (by omega))⟩)
        exact ⟨x, x1, fun P hP => GX12_nextComing_4 hM i a ⟨fun q => absurd q (by omega), fun _ => ⟨ha4, fun q => absurd q1 q, fun _ => ⟨fun _ => ⟨hs, x2 P hP⟩, fun q => absurd h1 q⟩⟩⟩⟩
      · by_cases q2 : m 60 0 i ≤ m 60 0 a
        · obtain ⟨x, x1, x2⟩ := ih (a + 1) i (by omega) (by omega) (Or.inr ⟨h1, by omega, h3, fun k b c d => by
            by_cases e : k = a
            · rw [e]; exact q2
            · exact h4 k b (by omega) d⟩)
          exact ⟨x, x1, fun P hP => GX12_nextComing_4 hM i a ⟨fun q => absurd q (by omega), fun _ => ⟨ha4, fun q => absurd q1 q, fun _ => ⟨fun q => absurd q (by omega), fun _ => ⟨ha4, by omega, fun _ => ⟨hs, x2 P hP⟩, fun q => absurd q (by omega)⟩⟩⟩⟩⟩
        · obtain ⟨x, x1, x2⟩ := ih (a + 1) a (by omega) (by omega) (Or.inr ⟨ha, by omega, q1, fun k b c d => by
            by_cases e : k = a
            · rw [e]; omega
            · have := h4 k b (by omega) d
              omega⟩)
          exact ⟨x, x1, fun P hP => GX12_nextComing_4 hM i a ⟨fun q => absurd q (by omega), fun _ => ⟨ha4, fun q => absurd q1 q, fun _ => ⟨fun q => absurd q (by omega), fun _ => ⟨ha4, by omega, fun q => absurd q q2, fun _ => ⟨hs, x2 P hP⟩⟩⟩⟩⟩⟩
    · obtain ⟨x, x1, x2⟩ := ih (a + 1) i (by omega) (by omega) (by
        rcases h with ⟨h1, h2⟩ | ⟨h1, h2, h3, h4⟩
        · refine Or.inl ⟨h1, fun k b c => ?_⟩
          by_cases e : k = a
          · rw [e]; exact q1
          · exact h2 k b (by omega)
        · refine Or.inr ⟨h1, by omega, h3, fun k b c d => ?_⟩
          by_cases e : k = a
          · rw [e] at d; exact absurd d q1
          · exact h4 k b (by omega) d)
      exact ⟨x, x1, fun P hP => GX12_nextComing_4 hM i a ⟨fun q => absurd q (by omega), fun _ => ⟨ha4, fun _ => ⟨hs, x2 P hP⟩, fun q => absurd q q1⟩⟩⟩
theorem nextComing_run {r : zR} (hM : RSm r) {m : zI} (hc : 0 ≤ m 37 0 37 ∧ m 37 0 37 ≤ 200) : ∃ x, NX m x ∧ R0i mX12_nextComing [.inr (some (37, 0))] m r x := by
  obtain ⟨x, x1, x2⟩ := nextComing_from hM hc.2 (m 37 0 37).toNat 0 (-1) (by omega) (by omega) (Or.inl ⟨rfl, fun k a b => by omega⟩)
  exact ⟨x, x1, fun P hP => GX12_nextComing (x2 P hP)⟩
