theorem smI_cong {f g : Int → Int} : ∀ n : Nat, (∀ i : Int, 0 ≤ i → i < n → f i = g i) → smI f n = smI g n := by
  intro n
  induction n with
  | zero => exact fun _ => rfl
  | succ n ih =>
    intro h
    unfold smI
    rw [ih (fun i a b => h i a (by omega)), h n (by omega) (by omega)]
theorem smI_bd {f : Int → Int} {B : Int} : ∀ n : Nat, (∀ i : Int, 0 ≤ i → i < n → 0 ≤ f i ∧ f i ≤ B) → 0 ≤ smI f n ∧ smI f n ≤ B * n := by
  intro n
  induction n with
  | zero => exact fun _ => ⟨by simp [smI], by simp [smI]⟩
  | succ n ih =>
    intro h
    have h1 := ih (fun i a b => h i a (by omega))
    have h2 := h n (by omega) (by omega)
    unfold smI
    rw [show B * ((n + 1 : Nat) : Int) = B * n + B by rw [show ((n + 1 : Nat) : Int) = (n : Int) + 1 by omega, Int.mul_add, Int.mul_one]]
    omega
theorem inc_ge {nm : Int → Int} {sz : Int} (h : ∀ i i', 0 ≤ i → i < i' → i' < sz → nm i < nm i') : ∀ n : Nat, (n : Int) < sz → nm 0 + n ≤ nm n := by
  intro n
  induction n with
  | zero => intro _; simp
  | succ n ih =>
    intro hn
    have h1 := ih (by omega)
    have h2 := h n ((n + 1 : Nat) : Int) (by omega) (by omega) (by omega)
    omega
/-- the fates' bits -/
theorem fate_bits {f : Int} (h0 : 0 ≤ f) (h1 : f ≤ 15) : zand f 1 = f % 2 ∧ zand (zshr f 1) 3 = f / 2 % 4 ∧ (zand f 8 = 0 ↔ f < 8) ∧ zand (zshr f 3) 1 = f / 8 := by
  rcases (show f = 0 ∨ f = 1 ∨ f = 2 ∨ f = 3 ∨ f = 4 ∨ f = 5 ∨ f = 6 ∨ f = 7 ∨ f = 8 ∨ f = 9 ∨ f = 10 ∨ f = 11 ∨ f = 12 ∨ f = 13 ∨ f = 14 ∨ f = 15 by omega) with h | h | h | h | h | h | h | h | h | h | h | h | h | h | h | h <;> subst h <;> decide +kernel
/-- there is room for one more message -/
theorem RlG.room {r9 : Int → Option (Nat × Int)} {c10 : Int → Int → Int} {sz vn tk sb sent cm : Int} {m54 m55 m69 m70 m77 m59 m60 m61 m62 m63 m64 m65 : Int → Int} (h : RlG r9 c10 sz vn tk 1 sb sent cm m54 m55 m69 m70 m77 m59 m60 m61 m62 m63 m64 m65) (hs : sb ≤ 11) (hs0 : 0 ≤ sb) : 0 ≤ sz ∧ sz ≤ 59 ∧ 0 ≤ cm ∧ cm ≤ 2 * sz := by
  obtain ⟨pi, nm, g1, g2, g3, g4, g5, g6, g7, g8, g9, -⟩ := h
  have hb := smI_bd (f := fun i => c10 (pi i) 6) (B := 2) sz.toNat (fun i a b => by
    have := (g6 i a (by omega)).2.2.2.1
    show 0 ≤ c10 (pi i) 6 ∧ c10 (pi i) 6 ≤ 2
    omega)
  refine ⟨g3, ?_, by omega, by omega⟩
  by_cases hz : sz = 0
  · omega
  · obtain ⟨-, -, -, k1, k2, k3, k4, k5, k6, -⟩ := g6 0 (by omega) (by omega)
    have h1 := inc_ge g5 (sz - 1).toNat (by omega)
    have h2 := (g6 ((sz - 1).toNat : Int) (by omega) (by omega)).2.2.2.2.2.2.2.2.1
    omega
/-- one more message, and its comings -/
theorem RlG.add {r9 : Int → Option (Nat × Int)} {c10 c10' : Int → Int → Int} {sz vn tk sb sent cm : Int} {m54 m55 m69 m70 m77 m59 m60 m61 m62 m63 m64 m65 n59 n60 n61 n62 n63 n64 n65 : Int → Int} (h : RlG r9 c10 sz vn tk 1 sb sent cm m54 m55 m69 m70 m77 m59 m60 m61 m62 m63 m64 m65) (hs : sb ≤ 11) (hs0 : 0 ≤ sb) (hse : 0 ≤ sent)
    {pj com : Int} (hpj : r9 sz = some (10, pj)) (hc : ∀ j, j ≠ pj → c10' j = c10 j) (hcom : c10' pj 6 = com) (hm : RlM1 (c10' pj) vn tk 1 (sb + 1) sent (sent + 1) m54 m55 m69 m70 m77)
    (k59 : ∀ k, k < cm → n59 k = m59 k) (k60 : ∀ k, k < cm → n60 k = m60 k) (k61 : ∀ k, k < cm → n61 k = m61 k) (k62 : ∀ k, k < cm → n62 k = m62 k) (k63 : ∀ k, k < cm → n63 k = m63 k) (k64 : ∀ k, k < cm → n64 k = m64 k) (k65 : ∀ k, k < cm → n65 k = m65 k)
    (hn : ∀ x, 0 ≤ x → x < com → n59 (cm + x) = c10' pj 5 + x ∧ n60 (cm + x) = sent ∧ n61 (cm + x) = 1 - c10' pj 0 ∧ n62 (cm + x) = c10' pj 1 ∧ n63 (cm + x) = c10' pj 2 ∧ n64 (cm + x) = c10' pj 3 ∧ n65 (cm + x) = c10' pj 4) :
    RlG r9 c10' (sz + 1) vn tk 1 (sb + 1) (sent + 1) (cm + com) m54 m55 m69 m70 m77 n59 n60 n61 n62 n63 n64 n65 := by
  obtain ⟨q1, q2, q3, q4⟩ := h.room hs hs0
  obtain ⟨pi, nm, g1, g2, g3, g4, g5, g6, g7, g8, g9, g10, g11, g12⟩ := h
  have hcm : com = 1 ∨ com = 2 := by rw [← hcom]; exact hm.2.2.2.1
  have hps : pi sz = pj := by
    have := (g1 sz q1 (by omega)).1
    rw [hpj] at this
    injection this with this
    injection this with _ this
    exact this.symm
  have hpi : ∀ i, 0 ≤ i → i < sz → c10' (pi i) = c10 (pi i) := fun i a b => hc _ (by rw [← hps]; exact g2 i sz a b (by omega))
  have nmlt : ∀ i, 0 ≤ i → i < sz → nm i < sent := fun i a b => (g6 i a b).2.2.2.2.2.2.2.2.1
  obtain ⟨nn, n1, n2⟩ : ∃ f : Int → Int, (∀ i, i ≠ sz → f i = nm i) ∧ f sz = sent := ⟨fun i => if i = sz then sent else nm i, fun i h => if_neg h, if_pos rfl⟩
  refine ⟨pi, nn, g1, g2, by omega, by omega, fun i i' a b c => ?_, fun i a b => ?_, ?_, by omega, by omega, fun k a b => ?_, fun i x a b c d => ?_, fun k k' a b c => ?_⟩
  · rw [n1 i (by omega)]
    by_cases e : i' = sz
    · rw [e, n2]; exact nmlt i a (by omega)
    · rw [n1 i' e]; exact g5 i i' a b (by omega)
  · by_cases e : i = sz
    · rw [e, n2, hps]; exact hm
    · rw [n1 i e, hpi i a (by omega)]
      obtain ⟨k1, k2, k3, k4, k5, k6, k7, k8, k9, k10, k11⟩ := g6 i a (by omega)
      exact ⟨k1, k2, k3, k4, k5, k6, by omega, k8, by omega, k10, k11⟩
  · rw [show (sz + 1).toNat = sz.toNat + 1 by omega]
    show _ = smI (fun i => c10' (pi i) 6) sz.toNat + c10' (pi (sz.toNat : Int)) 6
    rw [show ((sz.toNat : Nat) : Int) = sz by omega, hps, hcom, g7]
    congr 1
    exact smI_cong _ (fun i a b => by rw [hpi i a (by omega)])
  · by_cases hk : k < cm
    · obtain ⟨i, x, u1, u2, u3, u4, u5, u6, u7, u8, u9, u10, u11⟩ := g10 k a hk
      refine ⟨i, x, u1, by omega, u3, ?_⟩
      rw [hpi i u1 u2, n1 i (by omega), k59 k hk, k60 k hk, k61 k hk, k62 k hk, k63 k hk, k64 k hk, k65 k hk]
      exact ⟨u4, u5, u6, u7, u8, u9, u10, u11⟩
    · obtain ⟨u1, u2, u3, u4, u5, u6, u7⟩ := hn (k - cm) (by omega) (by omega)
      rw [show cm + (k - cm) = k by omega] at u1 u2 u3 u4 u5 u6 u7
      refine ⟨sz, k - cm, q1, by omega, by omega, ?_⟩
      rw [hps, n2, hcom]
      exact ⟨by omega, u1, u2, u3, u4, u5, u6, u7⟩
  · by_cases e : i = sz
    · rw [e, hps] at d ⊢
      rw [hcom] at d
      obtain ⟨u1, u2, -⟩ := hn x c d
      exact ⟨cm + x, by omega, by omega, u1, by rw [n2]; exact u2⟩
    · rw [hpi i a (by omega)] at d ⊢
      obtain ⟨k, u1, u2, u3, u4⟩ := g11 i x a (by omega) c d
      exact ⟨k, u1, by omega, by rw [k59 k u2]; exact u3, by rw [n1 i e, k60 k u2]; exact u4⟩
  · by_cases h1 : k' < cm
    · rw [k59 k (by omega), k59 k' h1, k60 k (by omega), k60 k' h1]
      exact g12 k k' a b h1
    · obtain ⟨u1, u2, -⟩ := hn (k' - cm) (by omega) (by omega)
      rw [show cm + (k' - cm) = k' by omega] at u1 u2
      by_cases h2 : k < cm
      · obtain ⟨i, x, v1, v2, v3, v4, v5, v6, -⟩ := g10 k a h2
        have := nmlt i v1 v2
        refine Or.inr ?_
        rw [k60 k h2, u2, v6]
        omega
      · obtain ⟨w1, w2, -⟩ := hn (k - cm) (by omega) (by omega)
        rw [show cm + (k - cm) = k by omega] at w1 w2
        refine Or.inl ?_
        rw [u1, w1]
        omega
/-- a message that is lost: only its number is gone -/
theorem RlG.lost {r9 : Int → Option (Nat × Int)} {c10 : Int → Int → Int} {sz vn tk sb sent cm : Int} {m54 m55 m69 m70 m77 m59 m60 m61 m62 m63 m64 m65 : Int → Int} (h : RlG r9 c10 sz vn tk 1 sb sent cm m54 m55 m69 m70 m77 m59 m60 m61 m62 m63 m64 m65) : RlG r9 c10 sz vn tk 1 (sb + 1) (sent + 1) cm m54 m55 m69 m70 m77 m59 m60 m61 m62 m63 m64 m65 := by
  obtain ⟨pi, nm, g1, g2, g3, g4, g5, g6, g7⟩ := h
  refine ⟨pi, nm, g1, g2, g3, g4, g5, fun i a b => ?_, g7⟩
  obtain ⟨k1, k2, k3, k4, k5, k6, k7, k8, k9, k10, k11⟩ := g6 i a b
  exact ⟨k1, k2, k3, k4, k5, k6, by omega, k8, by omega, k10, k11⟩
