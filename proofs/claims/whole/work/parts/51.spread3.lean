section ZP
variable {jm ln wd vn v a b t0 : Int} {k pk tr tb te : Int → Int}
theorem LyI.keep {hi hi' : zI} {n : Int} {X : Int → Prop} (h : LyI hi ln wd n X) (hl : ln ≤ 16) (e : ∀ i, n * 16 ≤ i → i < n * 16 + 16 → hi' 20 0 i = hi 20 0 i) : LyI hi' ln wd n X :=
  SI.cong h (fun y y0 y1 => e _ (by omega) (by omega)) (fun _ _ _ _ _ _ _ _ _ => Iff.rfl)
/-- the planner's references: the two rows of what is held change places -/
def rfE (r r' : zR) : Prop := (∀ q, q ≠ 19 → r' q = r q) ∧ (∀ s, s ≠ 3 → s ≠ 4 → r' 19 0 s = r 19 0 s)
theorem rfE.refl (r : zR) : rfE r r := ⟨fun _ _ => rfl, fun _ _ _ => rfl⟩
theorem rfE.trans {r r' r'' : zR} (h : rfE r r') (h' : rfE r' r'') : rfE r r'' := ⟨fun q hq => (h'.1 q hq).trans (h.1 q hq), fun s a b => (h'.2 s a b).trans (h.2 s a b)⟩
theorem rfE.swap (r : zR) (x y : Option (Nat × Int)) : rfE r (zupR (zupR r 19 0 3 x) 19 0 4 y) :=
  ⟨fun q hq => (zupR_kf _ _ _ _ hq).trans (zupR_kf _ _ _ _ hq), fun s a b => by rw [zupR_v, zupR_v, if_neg (fun z => b z.2), if_neg (fun z => a z.2)]⟩
def SpI (jm ln wd vn v a b t0 : Int) (k pk tr tb te : Int → Int) (n : Nat) (hi : zI) (r : zR) : Prop :=
  PE hi r jm ln wd vn v a b t0 k pk tr tb te ∧ (∃ ja, (ja = 0 ∨ ja = 1) ∧ r 19 0 3 = some (23, 1 - ja) ∧ r 19 0 4 = some (23, ja) ∧ SI (hi 23 ja) ln wd (fun p => hld vn pk tr tb te v (t0 + n) (p / 3))) ∧ SI (hi 21 0) ln wd (fun p => opn k a b (pk v) (p / 3)) ∧ TuI hi ln wd a b ∧
  LyI hi ln wd n (rch ln wd vn k pk tr tb te v a b t0 n) ∧ (∀ i : Nat, i < n → LyI hi ln wd i (rcd ln wd vn k pk tr tb te v a b t0 i)) ∧ (∀ i : Nat, i < n → ¬ rch ln wd vn k pk tr tb te v a b t0 i (3 * pk v + 2))
theorem TuI.keep {hi hi' : zI} (h : TuI hi ln wd a b) (e : hi' 22 = hi 22) : TuI hi' ln wd a b := by
  unfold TuI at h ⊢
  rw [e]
  exact h
theorem spread_step {n : Nat} {hi : zI} {r : zR} (h : SpI jm ln wd vn v a b t0 k pk tr tb te n hi r) (hn : n < 300) (hng : ¬ rch ln wd vn k pk tr tb te v a b t0 n (3 * pk v + 2)) :
    ∃ hi' r', plE hi hi' ∧ rfE r r' ∧ SpI jm ln wd vn v a b t0 k pk tr tb te (n + 1) hi' r' ∧
      ∀ (P : Int → zI → zR → Prop) u2, (¬ rch ln wd vn k pk tr tb te v a b t0 (n + 1) (3 * pk v + 2) → ∀ u2, WP mX4_spread 29 [some (.inr (some (19, 0))), some (.inl ((n : Int) + 1)), u2] [] hi' r' (zQ2i P)) → (rch ln wd vn k pk tr tb te v a b t0 (n + 1) (3 * pk v + 2) → P ((n : Int) + 1) hi' r') → WP mX4_spread 29 [some (.inr (some (19, 0))), some (.inl n), u2] [] hi r (zQ2i P) := by
  obtain ⟨E, ⟨ja, hja, r3, r4, H⟩, O, T, L, Ls, G⟩ := h
  have hjA : 0 ≤ ja ∧ ja < 2 := by omega
  have hjB : 0 ≤ 1 - ja ∧ 1 - ja < 2 := by omega
  have E1 := E.swap (some (23, ja)) (some (23, 1 - ja))
  obtain ⟨r', er⟩ : ∃ r', r' = zupR (zupR r 19 0 3 (some (23, ja))) 19 0 4 (some (23, 1 - ja)) := ⟨_, rfl⟩
  have rf := rfE.swap r (some (23, ja)) (some (23, 1 - ja))
  have q3 : r' 19 0 3 = some (23, ja) := by rw [er, zupR_v, if_neg (by decide), zupR_v, if_pos ⟨rfl, rfl⟩]
  have q4 : r' 19 0 4 = some (23, 1 - ja) := by rw [er, zupR_v, if_pos ⟨rfl, rfl⟩]
  rw [← er] at E1 rf
  have R := E1.1
  obtain ⟨-, -, -, -, ⟨w7, w8, w9, w10, w11, w12, w13⟩, -, -, -, -, ht, Y, -⟩ := E1
  have E1 := E.swap (some (23, ja)) (some (23, 1 - ja))
  rw [← er] at E1
  have hl := Y.1
  have hw := Y.2.1
  obtain ⟨h1, a1, a2, a3, a4⟩ := markHeld_run (t := t0 + n + 1) (by omega) hjB q4 E1
  have F1 := E1.keep (plE.of1 a1 (by decide))
  have L1 : LyI h1 ln wd n (rch ln wd vn k pk tr tb te v a b t0 n) := L.keep hl.2 (fun i _ _ => by rw [a1 20 (by decide)])
  obtain ⟨h2, b1, b2, b3, b4⟩ := dropEntered_run (hi := h1) (n := n) (H := hld vn pk tr tb te v (t0 + n + 1)) R hl hw.2 (by omega) hjB q4 (by rw [a1 19 (by decide)]; exact w8) L1 a3
  have hA2 : SI (h2 23 ja) ln wd (fun p => hld vn pk tr tb te v (t0 + n) (p / 3)) := by rw [b1 23 (by decide), a2 ja (by omega)]; exact H
  have hB2 : SI (h2 23 (1 - ja)) ln wd (fun p => hld vn pk tr tb te v (t0 + n + 1) (p / 3)) := by rw [b1 23 (by decide)]; exact a3
  have hO2 : SI (h2 21 0) ln wd (fun p => opn k a b (pk v) (p / 3)) := by rw [b1 21 (by decide), a1 21 (by decide)]; exact O
  have hT2 : TuI h2 ln wd a b := T.keep (by rw [b1 22 (by decide), a1 22 (by decide)])
  have e82 : h2 19 0 8 = ln := by rw [b1 19 (by decide), a1 19 (by decide)]; exact w8
  have hL2 : LyI h2 ln wd n (rcd ln wd vn k pk tr tb te v a b t0 n) := b3
  obtain ⟨h5, f1, f2, f3, f4⟩ := spreadStep_run (t0 := t0) R Y hn hjA hjB q3 q4 e82 hO2 hA2 hB2 hT2 hL2
  have kp : plE hi h5 := fun q x1 x2 x3 x4 => (f1 q x1).trans ((b1 q x1).trans (a1 q x4))
  have ec : ((n + 1 : Nat) : Int) = (n : Int) + 1 := by omega
  refine ⟨h5, r', kp, rf, ⟨E1.keep kp, ⟨1 - ja, by omega, ?_, q4, ?_⟩, ?_, hT2.keep (f1 22 (by decide)), by rw [ec]; exact f3, fun i hi => ?_, fun i hi => ?_⟩, fun P u2 hP1 hP2 => ?_⟩
  · rw [q3]
    congr 2
    omega
  · rw [f1 23 (by decide)]
    have e : t0 + ((n + 1 : Nat) : Int) = t0 + n + 1 := by omega
    rw [e]
    exact hB2
  · rw [f1 21 (by decide)]; exact hO2
  · by_cases q : i = n
    · subst q
      exact hL2.keep hl.2 (fun i i0 i1 => f2 i (by omega))
    · exact (Ls i (by omega)).keep hl.2 (fun z i0 i1 => (f2 z (by omega)).trans ((b2 z (by omega)).trans (by rw [a1 20 (by decide)])))
  · by_cases q : i = n
    · subst q; exact hng
    · exact G i (by omega)
  · have e10 : hi 19 0 10 = t0 := w10
    refine GX4_spread_29 n u2 ⟨fun q => absurd q (by omega), fun _ => ⟨1 - ja, r3, hjB, ja, r4, hjA, ⟨by omega, by omega⟩, ⟨by omega, by omega⟩, ?_⟩⟩
    rw [← er, e10]
    refine a4 _ (b4 _ (f4 _ ⟨⟨by omega, by omega⟩, ?_⟩))
    have e13 : h5 19 0 13 = pk v := by rw [kp 19 (by decide) (by decide) (by decide) (by decide)]; exact w13
    have e7 : h5 19 0 7 = wd := by rw [kp 19 (by decide) (by decide) (by decide) (by decide)]; exact w7
    have hp := Y.2.2.2.2.2
    rw [e13]
    by_cases g : rch ln wd vn k pk tr tb te v a b t0 (n + 1) (3 * pk v + 2)
    · exact isReached_run R e7 hw hl.2 (by omega) (by omega) ⟨hp.1, hp.2.1⟩ f3 1 (Or.inl ⟨rfl, g⟩) _ ⟨fun q => absurd q (by decide), fun _ => ⟨⟨by omega, by omega⟩, hP2 g⟩⟩
    · exact isReached_run R e7 hw hl.2 (by omega) (by omega) ⟨hp.1, hp.2.1⟩ f3 0 (Or.inr ⟨rfl, g⟩) _ ⟨fun _ => ⟨⟨by omega, by omega⟩, hP1 g _⟩, fun q => absurd rfl q⟩
/-- what the spreading comes to -/
def SpE (jm ln wd vn v a b t0 : Int) (k pk tr tb te : Int → Int) (x : Int) (hi : zI) (r : zR) : Prop :=
  PE hi r jm ln wd vn v a b t0 k pk tr tb te ∧ (∃ ja, (ja = 0 ∨ ja = 1) ∧ r 19 0 3 = some (23, 1 - ja) ∧ r 19 0 4 = some (23, ja)) ∧ TuI hi ln wd a b ∧
  ((x = -1 ∧ ¬ Fnd ln wd vn k pk tr tb te v a b t0) ∨ ∃ N : Nat, x = N ∧ 1 ≤ N ∧ N ≤ 300 ∧ rch ln wd vn k pk tr tb te v a b t0 N (3 * pk v + 2) ∧ (∀ i : Nat, i < N → ¬ rch ln wd vn k pk tr tb te v a b t0 i (3 * pk v + 2)) ∧ ∀ i : Nat, i < N → LyI hi ln wd i (rcd ln wd vn k pk tr tb te v a b t0 i))
theorem spread_from : ∀ (m n : Nat) (hi : zI) (r : zR), n + m = 300 → SpI jm ln wd vn v a b t0 k pk tr tb te n hi r → ¬ rch ln wd vn k pk tr tb te v a b t0 n (3 * pk v + 2) →
    ∃ x hi' r', plE hi hi' ∧ rfE r r' ∧ SpE jm ln wd vn v a b t0 k pk tr tb te x hi' r' ∧ ∀ (P : Int → zI → zR → Prop)  u2, P x hi' r' → WP mX4_spread 29 [some (.inr (some (19, 0))), some (.inl n), u2] [] hi r (zQ2i P) := by
  intro m
  induction m with
  | zero =>
    intro n hi r hm S G
    obtain ⟨E, ⟨ja, hja, r3, r4, H⟩, O, T, L, Ls, Gs⟩ := S
    refine ⟨-1, hi, r, plE.refl hi, rfE.refl r, ⟨E, ⟨ja, hja, r3, r4⟩, T, Or.inl ⟨rfl, ?_⟩⟩, fun P u2 hP => GX4_spread_29 n u2 ⟨fun _ => hP, fun q => absurd q (by omega)⟩⟩
    rintro ⟨i, i1, i2⟩
    by_cases q : i = n
    · rw [q] at i2; exact G i2
    · exact Gs i (by omega) i2
  | succ m ih =>
    intro n hi r hm S G
    obtain ⟨h1, r1, e1, e2, e3, e4⟩ := spread_step S (by omega) G
    by_cases g : rch ln wd vn k pk tr tb te v a b t0 (n + 1) (3 * pk v + 2)
    · obtain ⟨E, ⟨ja, hja, r3, r4, H⟩, O, T, L, Ls, Gs⟩ := e3
      exact ⟨((n : Int) + 1), h1, r1, e1, e2, ⟨E, ⟨ja, hja, r3, r4⟩, T, Or.inr ⟨n + 1, by omega, by omega, by omega, g, Gs, Ls⟩⟩, fun P u2 hP => e4 P u2 (fun q => absurd g q) (fun _ => hP)⟩
    · obtain ⟨x, h2, r2, f1, f2, f3, f4⟩ := ih (n + 1) h1 r1 (by omega) e3 g
      refine ⟨x, h2, r2, e1.trans f1, e2.trans f2, f3, fun P u2 hP => e4 P u2 (fun _ u2' => ?_) (fun q => absurd q g)⟩
      have := f4 P u2' hP
      have ec : ((n + 1 : Nat) : Int) = (n : Int) + 1 := by omega
      rw [ec] at this
      exact this
theorem spread_run {hi : zI} {r : zR} (E : PE hi r jm ln wd vn v a b t0 k pk tr tb te) (hr : ∃ ja, (ja = 0 ∨ ja = 1) ∧ r 19 0 3 = some (23, 1 - ja) ∧ r 19 0 4 = some (23, ja)) (O : SI (hi 21 0) ln wd (fun p => opn k a b (pk v) (p / 3))) (T : TuI hi ln wd a b) :
    ∃ x hi' r', plE hi hi' ∧ rfE r r' ∧ SpE jm ln wd vn v a b t0 k pk tr tb te x hi' r' ∧ R2i mX4_spread [.inr (some (19, 0))] hi r x hi' r' := by
  have E0 := E
  obtain ⟨ja, hja, r3, r4⟩ := hr
  obtain ⟨R, -, -, -, ⟨w7, w8, w9, w10, w11, w12, w13⟩, -, -, -, -, ht, Y, -⟩ := E
  have hl := Y.1
  have hw := Y.2.1
  have hp := Y.2.2.2.2.2
  have dv := div_bd hw.1 hl.2 ⟨hp.1, hp.2.1⟩
  obtain ⟨h1, eh1⟩ : ∃ h1, h1 = zfil hi 20 0 (0 * 16) (0 * 16 + 16) 0 := ⟨_, rfl⟩
  have a1 : ∀ q, q ≠ 20 → h1 q = hi q := by
    intro q hq
    rw [eh1]
    funext j s
    show (if q = 20 ∧ j = 0 ∧ 0 * 16 ≤ s ∧ s < 0 * 16 + 16 then 0 else hi q j s) = hi q j s
    rw [if_neg (fun z => hq z.1)]
  have a2 : ∀ i, 0 ≤ i → i < 16 → h1 20 0 i = 0 := by
    intro i i0 i1
    rw [eh1]
    show (if 20 = 20 ∧ (0 : Int) = 0 ∧ 0 * 16 ≤ i ∧ i < 0 * 16 + 16 then 0 else hi 20 0 i) = 0
    rw [if_pos ⟨rfl, rfl, by omega, by omega⟩]
  obtain ⟨h2, eh2⟩ : ∃ h2, h2 = zup h1 20 0 (0 * 16 + pk v / wd) (zlor (h1 20 0 (0 * 16 + pk v / wd)) (zlshl 1 (0 * 20 + pk v % wd))) := ⟨_, rfl⟩
  have b1 : ∀ q, q ≠ 20 → h2 q = hi q := fun q hq => by rw [eh2, zup_kf _ _ _ _ hq, a1 q hq]
  have E2 := E0.keep (plE.of1 b1 (by decide))
  have L2 : LyI h2 ln wd ((0 : Nat) : Int) (rch ln wd vn k pk tr tb te v a b t0 0) := by
    have em : SI (fun y => h1 20 0 (((0 : Nat) : Int) * 16 + y)) ln wd (fun _ => False) := SI.empty (fun y y0 y1 => a2 _ (by omega) (by omega))
    refine (em.mark (f' := fun y => h2 20 0 (((0 : Nat) : Int) * 16 + y)) (c := pk v) (s := 0) hw (by omega) (fun y y0 y1 => ?_)).cong (fun _ _ _ => rfl) (fun y x st y0 y1 x0 x1 s0 s1 => ?_)
    · rw [eh2, zup_at]
      by_cases z : y = pk v / wd
      · rw [if_pos (by omega), if_pos z, z]
        rfl
      · rw [if_neg (by omega), if_neg z]
    · show 3 * (y * wd + x) + st = 3 * pk v ↔ _
      constructor
      · exact fun z => Or.inr (by omega)
      · rintro (z | z)
        · exact z.elim
        · omega
  obtain ⟨h3, c1, c2, c3, c4⟩ := markHeld_run (hi := h2) (t := t0) (j := ja) (by omega) (by omega) r4 E2
  have k3 : ∀ q, q ≠ 20 → q ≠ 23 → h3 q = hi q := fun q x y => (c1 q y).trans (b1 q x)
  have kp : plE hi h3 := fun q x1 x2 x3 x4 => k3 q x1 x4
  obtain ⟨x, h4, r4', d1, d2, d3, d4⟩ := spread_from 300 0 h3 r (by omega) ⟨E0.keep kp, ⟨ja, hja, r3, r4, by
      have e : t0 + ((0 : Nat) : Int) = t0 := by omega
      rw [e]; exact c3⟩, by rw [k3 21 (by decide) (by decide)]; exact O, T.keep (k3 22 (by decide) (by decide)), L2.keep hl.2 (fun i _ _ => by rw [c1 20 (by decide)]), fun i hi => by omega, fun i hi => by omega⟩ (by
      intro z
      have : 3 * pk v + 2 = 3 * pk v := z
      omega)
  refine ⟨x, h4, r4', kp.trans d1, d2, d3, fun P hP => GX4_spread R (clearStep_run R (by omega) _ ?_)⟩
  rw [← eh1]
  have e13 : h1 19 0 13 = pk v := by rw [a1 19 (by decide)]; exact w13
  rw [e13]
  refine mark_Reached (ln := ln) (show h1 19 0 7 = wd by rw [a1 19 (by decide)]; exact w7) hw hl.2 (by omega) (by omega) ⟨hp.1, hp.2.1⟩ _ ?_
  rw [← eh2]
  have e10 : h2 19 0 10 = t0 := by rw [b1 19 (by decide)]; exact w10
  rw [e10]
  exact c4 _ (d4 P none hP)
end ZP
