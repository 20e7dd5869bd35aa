theorem smI_zero : ∀ n : Nat, smI (fun _ => 0) n = 0 := by
  intro n
  induction n with
  | zero => rfl
  | succ n ih => unfold smI; rw [ih]; rfl
/-- an end that does not reach a later one -/
def bdW (ln wd : Int) (k : Int → Int) (c : Int) : Prop := (0 ≤ c ∧ c < ln * wd) ∧ 2 ≤ k c ∧ ∃ x, c ≤ x ∧ x < ln * wd ∧ 2 ≤ k x ∧ ¬ Rea ln wd k c x
section ZF
variable {j ln wd c0 : Int} {k : Int → Int} {r : zR}
theorem fill_Seen : ∀ (n : Nat) (hi : zI) (a : Int), 0 ≤ a → a + n = 256 → ∀ P : zI → Prop, P (zfil hi 6 0 a 256 0) → WP mJ7_fill_53178 5 [some (.inr (some (6, 0))), some (.inl 0), some (.inl a), some (.inl 256)] [] hi r (zQ1v r P) := by
  intro n
  induction n with
  | zero =>
    intro hi a h0 h1 P hP
    rw [zfil_0 _ _ _ _ _ _ (by omega)] at hP
    exact GJ7_fill_53178_Seen_5 0 a 256 ⟨fun _ => hP, fun q => absurd q (by omega)⟩
  | succ n ih =>
    intro hi a h0 h1 P hP
    refine GJ7_fill_53178_Seen_5 0 a 256 ⟨fun h => absurd h (by omega), fun _ => ⟨⟨h0, by omega⟩, ⟨by omega, by omega⟩, ?_⟩⟩
    refine ih _ (a + 1) (by omega) (by omega) P ?_
    rw [zfil_s _ _ _ _ _ _ (by omega)]
    exact hP
theorem flood_run {c : zI} (E : JE c r j ln wd k) (hc0 : 0 ≤ c0 ∧ c0 < ln * wd) : ∃ c', (∀ q, q ≠ 5 → q ≠ 6 → c' q = c q) ∧ (∀ x, 0 ≤ x → x < ln * wd → (c' 6 0 x ≠ 0 ↔ Rea ln wd k c0 x)) ∧ R1v mX2_flood [.inr (some (4, 0)), .inr (some (30, j)), .inl c0] c r c' := by
  have E0 := E
  obtain ⟨R, hj, hw, hl, e5, hk⟩ := E
  have mx := mul_bd (a := ln) (b := wd) (A := 16) (B := 16) (by omega) (by omega) (by omega) (by omega)
  obtain ⟨h1, eh1⟩ : ∃ h1, h1 = zfil c 6 0 0 256 0 := ⟨_, rfl⟩
  have a1 : ∀ q, q ≠ 6 → h1 q = c q := by
    intro q hq
    rw [eh1]
    funext j s
    show (if q = 6 ∧ j = 0 ∧ 0 ≤ s ∧ s < 256 then 0 else c q j s) = c q j s
    rw [if_neg (fun z => hq z.1)]
  have a2 : ∀ x, 0 ≤ x → x < 256 → h1 6 0 x = 0 := by
    intro x x0 x1
    rw [eh1]
    show (if 6 = 6 ∧ (0 : Int) = 0 ∧ 0 ≤ x ∧ x < 256 then 0 else c 6 0 x) = 0
    rw [if_pos ⟨rfl, rfl, x0, x1⟩]
  obtain ⟨h2, eh2⟩ : ∃ h2, h2 = zup (zup h1 6 0 c0 1) 5 0 0 c0 := ⟨_, rfl⟩
  have e6 : ∀ y, h2 6 0 y = if y = c0 then 1 else h1 6 0 y := fun y => by rw [eh2, zup_kf _ _ _ _ (by decide), zup_at]
  have e5' : ∀ t, h2 5 0 t = if t = 0 then c0 else h1 5 0 t := fun t => by rw [eh2, zup_at, zup_kf _ _ _ _ (by decide)]
  have b1 : ∀ q, q ≠ 5 → q ≠ 6 → h2 q = c q := fun q x y => by rw [eh2, zup_kf _ _ _ _ x, zup_kf _ _ _ _ y, a1 q y]
  have F : FlI h2 ln wd k c0 1 := by
    refine ⟨fun t t0 t1 => ?_, fun y y1 y2 y3 => ?_, fun y y2 y3 => ?_, ?_, by rw [e6, if_pos rfl]⟩
    · have : t = 0 := by omega
      rw [e5', if_pos this, e6, if_pos rfl]
      exact ⟨hc0, rfl, Rea.start ln wd k c0⟩
    · rw [e6] at y1
      by_cases z : y = c0
      · exact ⟨0, by omega, by omega, by rw [e5', if_pos rfl, z]⟩
      · rw [if_neg z, a2 y y2 y3] at y1
        exact absurd rfl y1
    · rw [e6]
      split
      · exact Or.inr rfl
      · exact Or.inl (a2 y y2 y3)
    · have z0 := smI_zero 256
      refine (congrArg (fun z => z + 1) z0.symm).trans (smI_add1 (i := c0) hc0.1 (by omega) (fun y hy => ?_) ?_).symm
      · by_cases z : 0 ≤ y ∧ y < 256
        · rw [e6, if_neg hy, if_neg (fun w => w.2.2 (a2 y z.1 z.2))]
        · rw [if_neg (fun w => z ⟨w.1, w.2.1⟩)]
      · rw [e6, if_pos rfl, if_pos ⟨hc0.1, by omega, by decide⟩]; rfl
  obtain ⟨c', d1, d2, d3⟩ := flood_18 (r := r) (j := j) hc0 256 0 1 h2 (by omega) (by omega) (by omega) (E0.keep (fun q _ x y => b1 q x y)) F (fun t x y => by omega)
  refine ⟨c', fun q x y => (d1 q x y).trans (b1 q x y), d2, fun P hP => GX2_flood R j c0 hj (GJ7_fill_53178_Seen 0 (fill_Seen 256 c 0 (by omega) (by omega) _ ?_))⟩
  rw [← eh1]
  refine GX2_visit R c0 0 ⟨fun z => absurd z (by omega), fun _ => ⟨fun z => absurd z (by omega), fun _ => ⟨by omega, fun z => absurd (a2 c0 hc0.1 (by omega)) z, fun _ => ⟨fun z => absurd z (by omega), fun _ => ⟨fun _ => ⟨by omega, by omega, ⟨by omega, by omega⟩, ?_⟩, fun z => absurd z (by omega)⟩⟩⟩⟩⟩
  rw [← eh2]
  exact d3 P none none hP
theorem later_from {c : zI} (E : JE c r j ln wd k) (hs : ∀ x, 0 ≤ x → x < ln * wd → (c 6 0 x ≠ 0 ↔ Rea ln wd k c0 x)) (h00 : 0 ≤ c0) : ∀ (n : Nat) (i : Int), i + n = ln * wd → c0 ≤ i → (∀ x, c0 ≤ x → x < i → 2 ≤ k x → Rea ln wd k c0 x) →
    ∃ y, ((y = 1 ∧ ∀ x, c0 ≤ x → x < ln * wd → 2 ≤ k x → Rea ln wd k c0 x) ∨ (y = 0 ∧ ∃ x, c0 ≤ x ∧ x < ln * wd ∧ 2 ≤ k x ∧ ¬ Rea ln wd k c0 x)) ∧ ∀ P : Int → zI → Prop, P y c → WP mX2_reachesLaterEndpoints 8 [some (.inr (some (4, 0))), some (.inr (some (30, j))), some (.inl c0), some (.inl i)] [] c r (zQ1i r P) := by
  have E0 := E
  obtain ⟨R, hj, hw, hl, e5, hk⟩ := E
  have mx := mul_bd (a := ln) (b := wd) (A := 16) (B := 16) (by omega) (by omega) (by omega) (by omega)
  intro n
  induction n with
  | zero =>
    intro i hn h0 h
    exact ⟨1, Or.inl ⟨rfl, fun x a b => h x a (by omega)⟩, fun P hP => GX2_reachesLaterEndpoints_8 R j c0 i hj ⟨fun _ => hP, fun z => absurd z (by omega)⟩⟩
  | succ n ih =>
    intro i hn h0 h
    have zi : zInR (i + 1) := ⟨by omega, by omega⟩
    by_cases q : 2 ≤ k i
    · by_cases s : Rea ln wd k c0 i
      · obtain ⟨y, y1, y2⟩ := ih (i + 1) (by omega) (by omega) (fun x a b d => by
          by_cases z : x = i
          · rw [z]; exact s
          · exact h x a (by omega) d)
        have sn := (hs i (by omega) (by omega)).mpr s
        exact ⟨y, y1, fun P hP => GX2_reachesLaterEndpoints_8 R j c0 i hj ⟨fun z => absurd z (by omega), fun _ => ⟨fun z => absurd z (by omega), fun _ => isEnd_run E0 (by omega) 1 (Or.inl ⟨rfl, q⟩) _ ⟨fun z => absurd z (by decide), fun _ => ⟨by omega, fun _ => ⟨zi, y2 P hP⟩, fun z => absurd z sn⟩⟩⟩⟩⟩
      · have sn : c 6 0 i = 0 := by
          by_cases z : c 6 0 i = 0
          · exact z
          · exact absurd ((hs i (by omega) (by omega)).mp z) s
        exact ⟨0, Or.inr ⟨rfl, i, h0, by omega, q, s⟩, fun P hP => GX2_reachesLaterEndpoints_8 R j c0 i hj ⟨fun z => absurd z (by omega), fun _ => ⟨fun z => absurd z (by omega), fun _ => isEnd_run E0 (by omega) 1 (Or.inl ⟨rfl, q⟩) _ ⟨fun z => absurd z (by decide), fun _ => ⟨by omega, fun z => absurd sn z, fun _ => hP⟩⟩⟩⟩⟩
    · obtain ⟨y, y1, y2⟩ := ih (i + 1) (by omega) (by omega) (fun x a b d => by
        by_cases z : x = i
        · rw [z] at d; exact absurd d q
        · exact h x a (by omega) d)
      exact ⟨y, y1, fun P hP => GX2_reachesLaterEndpoints_8 R j c0 i hj ⟨fun z => absurd z (by omega), fun _ => ⟨fun z => absurd z (by omega), fun _ => isEnd_run E0 (by omega) 0 (Or.inr ⟨rfl, by omega⟩) _ ⟨fun _ => ⟨zi, y2 P hP⟩, fun z => absurd rfl z⟩⟩⟩⟩
theorem ways_from : ∀ (n : Nat) (i : Int) (c : zI), i + n = ln * wd → 0 ≤ i → JE c r j ln wd k → (∀ p, p < i → ¬ bdW ln wd k p) →
    ∃ x c', (∀ q, q ≠ 4 → q ≠ 5 → q ≠ 6 → c' q = c q) ∧ ((x = 0 ∧ ∀ p, ¬ bdW ln wd k p) ∨ (x = 5 ∧ bdW ln wd k (c' 4 0 2) ∧ ∀ p, p < c' 4 0 2 → ¬ bdW ln wd k p)) ∧ ∀ P : Int → zI → Prop, P x c' → WP mX2_faultOfWays 2 [some (.inr (some (4, 0))), some (.inr (some (30, j))), some (.inl i)] [] c r (zQ1i r P) := by
  intro n
  induction n with
  | zero =>
    intro i c hn h0 E h
    refine ⟨0, c, fun _ _ _ _ => rfl, Or.inl ⟨rfl, fun p hp => ?_⟩, fun P hP => GX2_faultOfWays_2 j i E.2.1 ⟨fun _ => hP, fun z => absurd z (by have := E.2.2.2.2.1; omega)⟩⟩
    by_cases z : p < i
    · exact h p z hp
    · have := hp.1.2; omega
  | succ n ih =>
    intro i c hn h0 E h
    have E0 := E
    obtain ⟨R, hj, hw, hl, e5, hk⟩ := E
    have mx := mul_bd (a := ln) (b := wd) (A := 16) (B := 16) (by omega) (by omega) (by omega) (by omega)
    have zi : zInR (i + 1) := ⟨by omega, by omega⟩
    by_cases q : 2 ≤ k i
    · obtain ⟨c1, a1, a2, a3⟩ := flood_run (c0 := i) E0 ⟨h0, by omega⟩
      have E1 : JE c1 r j ln wd k := E0.keep (fun q _ x y => a1 q x y)
      obtain ⟨y, y1, y2⟩ := later_from E1 a2 h0 (ln * wd - i).toNat i (by omega) (Int.le_refl _) (fun x a b => by omega)
      rcases y1 with ⟨ey, hy⟩ | ⟨ey, hy⟩
      · obtain ⟨x, c', b1, b2, b3⟩ := ih (i + 1) c1 (by omega) (by omega) E1 (fun p hp hb => by
          by_cases z : p = i
          · rw [z] at hb
            obtain ⟨w, w1, w2, w3, w4⟩ := hb.2.2
            exact w4 (hy w w1 w2 w3)
          · exact h p (by omega) hb)
        subst ey
        exact ⟨x, c', fun q u v w => (b1 q u v w).trans (a1 q v w), b2, fun P hP => GX2_faultOfWays_2 j i hj ⟨fun z => absurd z (by omega), fun _ => isEnd_run E0 ⟨h0, by omega⟩ 1 (Or.inl ⟨rfl, q⟩) _ ⟨fun z => absurd z (by decide), fun _ => GX2_reachesLaterEndpoints j i hj (a3 _ (y2 _ ⟨fun _ => ⟨zi, b3 P hP⟩, fun z => absurd z (by decide)⟩))⟩⟩⟩
      · subst ey
        refine ⟨5, zup c1 4 0 2 i, fun q u v w => (zup_kf _ _ _ _ u).trans (a1 q v w), Or.inr ⟨rfl, ?_, ?_⟩, fun P hP => GX2_faultOfWays_2 j i hj ⟨fun z => absurd z (by omega), fun _ => isEnd_run E0 ⟨h0, by omega⟩ 1 (Or.inl ⟨rfl, q⟩) _ ⟨fun z => absurd z (by decide), fun _ => GX2_reachesLaterEndpoints j i hj (a3 _ (y2 _ ⟨fun z => absurd rfl z, fun _ => hP⟩))⟩⟩⟩
        · rw [zup_s]; exact ⟨⟨h0, by omega⟩, q, hy⟩
        · rw [zup_s]; exact h
    · obtain ⟨x, c', b1, b2, b3⟩ := ih (i + 1) c (by omega) (by omega) E0 (fun p hp hb => by
        by_cases z : p = i
        · rw [z] at hb; exact q hb.2.1
        · exact h p (by omega) hb)
      exact ⟨x, c', b1, b2, fun P hP => GX2_faultOfWays_2 j i hj ⟨fun z => absurd z (by omega), fun _ => isEnd_run E0 ⟨h0, by omega⟩ 0 (Or.inr ⟨rfl, by omega⟩) _ ⟨fun _ => ⟨zi, b3 P hP⟩, fun z => absurd rfl z⟩⟩⟩
end ZF
