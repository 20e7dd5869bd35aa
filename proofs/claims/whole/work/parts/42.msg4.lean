theorem RSc.c9 {r r' : zR} (h : RSc r) (e : ∀ k, k ≠ 9 → r' k = r k) : RSc r' := by
  unfold RSc at h ⊢
  simp only [e 1 (by decide), e 2 (by decide), e 4 (by decide), e 7 (by decide), e 11 (by decide), e 17 (by decide), e 18 (by decide), e 19 (by decide), e 24 (by decide), e 25 (by decide), e 29 (by decide), e 30 (by decide)]
  exact h
theorem RSm.c9 {r r' : zR} (h : RSm r) (e : ∀ k, k ≠ 9 → r' k = r k) : RSm r' := by
  unfold RSm at h ⊢
  simp only [e 37 (by decide)]
  exact h
/-- a message's fields when it has come -/
def upM (tk : Int) (o : Int → Int) (s : Int) : Int := if o 5 = tk then (if s = 5 then o 5 + 1 else if s = 6 then o 6 - 1 else o s) else o s
/-- forgetting messages: those before i are looked at, kept of them are kept -/
def Fg (c : zI) (r : zR) (pi : Int → Int) (sz tk kept i : Int) (hi : zI) (hr : zR) (pi' sg : Int → Int) : Prop :=
  (∀ k, k ≠ 10 → hi k = c k) ∧ (∀ k, k ≠ 9 → hr k = r k) ∧
  (∀ j, 0 ≤ j → j < 64 → hr 9 0 j = some (10, pi' j) ∧ 0 ≤ pi' j ∧ pi' j < 64) ∧ (∀ j j', 0 ≤ j → j < j' → j' < 64 → pi' j ≠ pi' j') ∧
  0 ≤ kept ∧ kept ≤ i ∧ i ≤ sz ∧ (∀ j, i ≤ j → j < 64 → pi' j = pi j) ∧
  (∀ j, 0 ≤ j → j < 64 → ∀ s, hi 10 (pi j) s = if j < i then upM tk (c 10 (pi j)) s else c 10 (pi j) s) ∧
  (∀ q, 0 ≤ q → q < kept → 0 ≤ sg q ∧ sg q < i ∧ pi' q = pi (sg q) ∧ 0 < upM tk (c 10 (pi (sg q))) 6) ∧
  (∀ q q', 0 ≤ q → q < q' → q' < kept → sg q < sg q') ∧
  (∀ j, 0 ≤ j → j < i → 0 < upM tk (c 10 (pi j)) 6 → ∃ q, 0 ≤ q ∧ q < kept ∧ sg q = j) ∧
  smI (fun q => upM tk (c 10 (pi (sg q))) 6) kept.toNat = smI (fun j => upM tk (c 10 (pi j)) 6) i.toNat
theorem smI_succ (f : Int → Int) {i : Int} (h : 0 ≤ i) : smI f (i + 1).toNat = smI f i.toNat + f i := by
  have e : (i + 1).toNat = i.toNat + 1 := by omega
  rw [e]
  show smI f i.toNat + f (i.toNat : Int) = _
  rw [Int.toNat_of_nonneg h]
theorem upM_ne {tk : Int} {o : Int → Int} (h : o 5 ≠ tk) (s : Int) : upM tk o s = o s := if_neg h
theorem upM_eq {tk : Int} {o : Int → Int} (h : o 5 = tk) (s : Int) : upM tk o s = if s = 5 then o 5 + 1 else if s = 6 then o 6 - 1 else o s := if_pos h
/-- the contents after message i is looked at -/
theorem Fg.mem {c : zI} {r : zR} {pi : Int → Int} {sz tk kept i : Int} {hi : zI} {hr : zR} {pi' sg : Int → Int} (h : Fg c r pi sz tk kept i hi hr pi' sg) (inj : ∀ j j', 0 ≤ j → j < j' → j' < 64 → pi j ≠ pi j') (hi0 : 0 ≤ i ∧ i < 64) {hi' : zI} (e1 : ∀ k, k ≠ 10 → hi' k = hi k) (e2 : ∀ p, p ≠ pi i → hi' 10 p = hi 10 p) (e3 : ∀ s, hi' 10 (pi i) s = upM tk (c 10 (pi i)) s) :
    (∀ k, k ≠ 10 → hi' k = c k) ∧ (∀ j, 0 ≤ j → j < 64 → ∀ s, hi' 10 (pi j) s = if j < i + 1 then upM tk (c 10 (pi j)) s else c 10 (pi j) s) := by
  obtain ⟨f1, f2, f3, f4, f5, f6, f7, f8, f9, -⟩ := h
  refine ⟨fun k hk => (e1 k hk).trans (f1 k hk), fun j a b s => ?_⟩
  by_cases q : j = i
  · subst q
    rw [if_pos (by omega)]
    exact e3 s
  · have hne : pi j ≠ pi i := by
      by_cases z : j < i
      · exact inj j i a z hi0.2
      · exact fun y => inj i j hi0.1 (by omega) b y.symm
    rw [e2 _ hne, f9 j a b s]
    by_cases z : j < i
    · rw [if_pos z, if_pos (by omega)]
    · rw [if_neg z, if_neg (by omega)]
/-- message i is forgotten -/
theorem Fg.drop {c : zI} {r : zR} {pi : Int → Int} {sz tk kept i : Int} {hi : zI} {hr : zR} {pi' sg : Int → Int} (h : Fg c r pi sz tk kept i hi hr pi' sg) (inj : ∀ j j', 0 ≤ j → j < j' → j' < 64 → pi j ≠ pi j') (hi0 : i < sz ∧ sz ≤ 60) {hi' : zI} (e1 : ∀ k, k ≠ 10 → hi' k = hi k) (e2 : ∀ p, p ≠ pi i → hi' 10 p = hi 10 p) (e3 : ∀ s, hi' 10 (pi i) s = upM tk (c 10 (pi i)) s) (e4 : upM tk (c 10 (pi i)) 6 = 0) :
    Fg c r pi sz tk kept (i + 1) hi' hr pi' sg := by
  have hm := h.mem inj (by have := h.2.2.2.2.1; have := h.2.2.2.2.2.1; omega) e1 e2 e3
  obtain ⟨f1, f2, f3, f4, f5, f6, f7, f8, f9, f10, f11, f12, f13⟩ := h
  refine ⟨hm.1, f2, f3, f4, f5, by omega, by omega, fun j a b => f8 j (by omega) b, hm.2, fun q a b => ?_, f11, fun j a b d => ?_, ?_⟩
  · obtain ⟨z1, z2, z3⟩ := f10 q a b
    exact ⟨z1, by omega, z3⟩
  · by_cases q : j = i
    · rw [q, e4] at d; omega
    · exact f12 j a (by omega) d
  · rw [smI_succ _ (by omega), e4, f13]; omega
/-- message i is kept -/
theorem Fg.keep {c : zI} {r : zR} {pi : Int → Int} {sz tk kept i : Int} {hi : zI} {hr : zR} {pi' sg : Int → Int} (h : Fg c r pi sz tk kept i hi hr pi' sg) (inj : ∀ j j', 0 ≤ j → j < j' → j' < 64 → pi j ≠ pi j') (hi0 : i < sz ∧ sz ≤ 60) {hi' : zI} (e1 : ∀ k, k ≠ 10 → hi' k = hi k) (e2 : ∀ p, p ≠ pi i → hi' 10 p = hi 10 p) (e3 : ∀ s, hi' 10 (pi i) s = upM tk (c 10 (pi i)) s) (e4 : 0 < upM tk (c 10 (pi i)) 6) :
    Fg c r pi sz tk (kept + 1) (i + 1) hi' (zupR (zupR hr 9 0 i (some (10, pi' kept))) 9 0 kept (some (10, pi i))) (fun j => if j = kept then pi i else if j = i then pi' kept else pi' j) (fun q => if q = kept then i else sg q) := by
  have hm := h.mem inj (by have := h.2.2.2.2.1; have := h.2.2.2.2.2.1; omega) e1 e2 e3
  obtain ⟨f1, f2, f3, f4, f5, f6, f7, f8, f9, f10, f11, f12, f13⟩ := h
  have pii : pi' i = pi i := f8 i (by omega) (by omega)
  obtain ⟨sw, hsw⟩ : ∃ sw : Int → Int, ∀ j, sw j = if j = kept then i else if j = i then kept else j := ⟨_, fun _ => rfl⟩
  have hpi : ∀ j, (if j = kept then pi i else if j = i then pi' kept else pi' j) = pi' (sw j) := by
    intro j
    rw [hsw]
    split
    · exact pii.symm
    · split <;> rfl
  have hswr : ∀ j, 0 ≤ j → j < 64 → 0 ≤ sw j ∧ sw j < 64 := by
    intro j a b
    rw [hsw]
    split
    · omega
    · split <;> omega
  have pinj : ∀ a b, 0 ≤ a → a < 64 → 0 ≤ b → b < 64 → a ≠ b → pi' a ≠ pi' b := by
    intro a b a0 a1 b0 b1 hne
    by_cases z : a < b
    · exact f4 a b a0 z b1
    · exact fun y => f4 b a b0 (by omega) a1 y.symm
  refine ⟨hm.1, fun k hk => ?_, fun j a b => ?_, fun j j' a b d => ?_, by omega, by omega, by omega, fun j a b => ?_, hm.2, fun q a b => ?_, fun q q' a b d => ?_, fun j a b d => ?_, ?_⟩ <;> (try dsimp only)
  · rw [zupR_kf _ _ _ _ hk, zupR_kf _ _ _ _ hk]; exact f2 k hk
  · rw [zupR_v, zupR_v]
    by_cases q1 : j = kept
    · rw [if_pos ⟨rfl, q1⟩, if_pos q1]
      exact ⟨rfl, by rw [← pii]; exact (f3 i (by omega) (by omega)).2⟩
    · rw [if_neg (fun y => q1 y.2), if_neg q1]
      by_cases q2 : j = i
      · rw [if_pos ⟨rfl, q2⟩, if_pos q2]
        exact ⟨rfl, (f3 kept (by omega) (by omega)).2⟩
      · rw [if_neg (fun y => q2 y.2), if_neg q2]
        exact f3 j a b
  · rw [hpi, hpi]
    have r1 := hswr j a (by omega)
    have r2 := hswr j' (by omega) d
    refine pinj _ _ r1.1 r1.2 r2.1 r2.2 ?_
    rw [hsw, hsw]
    repeat' split
    all_goals omega
  · rw [if_neg (by omega), if_neg (by omega)]
    exact f8 j (by omega) b
  · by_cases z : q = kept
    · rw [if_pos z, if_pos z]
      exact ⟨by omega, by omega, rfl, e4⟩
    · rw [if_neg z, if_neg z, if_neg (by omega)]
      obtain ⟨z1, z2, z3⟩ := f10 q a (by omega)
      exact ⟨z1, by omega, z3⟩
  · rw [if_neg (by omega)]
    by_cases z : q' = kept
    · rw [if_pos z]
      exact (f10 q a (by omega)).2.1
    · rw [if_neg z]
      exact f11 q q' a b (by omega)
  · by_cases q : j = i
    · exact ⟨kept, f5, by omega, by (try dsimp only); rw [if_pos rfl]; exact q.symm⟩
    · obtain ⟨q0, z1, z2, z3⟩ := f12 j a (by omega) d
      exact ⟨q0, z1, by omega, by (try dsimp only); rw [if_neg (by omega)]; exact z3⟩
  · rw [smI_succ _ f5, smI_succ _ (by omega), if_pos rfl, ← f13]
    refine congrArg (· + _) (smI_cong _ (fun q a b => ?_))
    (try dsimp only)
    rw [if_neg (by omega)]
theorem forget_from {c : zI} {r : zR} (hR : RSc r) {pi : Int → Int} {sz tk : Int} (hsz : c 7 0 3 = sz ∧ 0 ≤ sz ∧ sz ≤ 60) (htk : 0 ≤ tk ∧ tk ≤ 600) (hpi : ∀ j, 0 ≤ j → j < 64 → 0 ≤ pi j ∧ pi j < 64) (inj : ∀ j j', 0 ≤ j → j < j' → j' < 64 → pi j ≠ pi j') (hcm : ∀ j, 0 ≤ j → j < sz → c 10 (pi j) 6 = 1 ∨ c 10 (pi j) 6 = 2) :
    ∀ (n : Nat) (kept i : Int) (hi : zI) (hr : zR) (pi' sg : Int → Int) (u4 : Option zV), i + n = sz → Fg c r pi sz tk kept i hi hr pi' sg → ∃ kept' hi' hr' pi'' sg', Fg c r pi sz tk kept' sz hi' hr' pi'' sg' ∧ ∀ P : zI → zR → Prop, P (zup hi' 7 0 3 kept') hr' → WP mX5_forgetCome 4 [some (.inr (some (7, 0))), some (.inl tk), some (.inl kept), some (.inl i), u4] [] hi hr (zQ2v P) := by
  intro n
  induction n with
  | zero =>
    intro kept i hi hr pi' sg u4 hn h
    have e : i = sz := by omega
    subst e
    have e7 : hi 7 0 3 = i := by rw [h.1 7 (by decide)]; exact hsz.1
    exact ⟨kept, hi, hr, pi', sg, h, fun P hP => GX5_forgetCome_4 (hR.c9 h.2.1) tk kept i u4 ⟨fun _ => hP, fun q => absurd q (by omega)⟩⟩
  | succ n ih =>
    intro kept i hi hr pi' sg u4 hn h
    have e7 : hi 7 0 3 = sz := by rw [h.1 7 (by decide)]; exact hsz.1
    have hR' := hR.c9 h.2.1
    have hk0 := h.2.2.2.2.1
    have hk1 := h.2.2.2.2.2.1
    have i64 : 0 ≤ i ∧ i < 64 := by omega
    have k64 : 0 ≤ kept ∧ kept < 64 := by omega
    have pii : pi' i = pi i := h.2.2.2.2.2.2.2.1 i (by omega) (by omega)
    have hri : hr 9 0 i = some (10, pi i) := by rw [← pii]; exact (h.2.2.1 i i64.1 i64.2).1
    have hrk := h.2.2.1 kept k64.1 k64.2
    have con : ∀ s, hi 10 (pi i) s = c 10 (pi i) s := fun s => by
      rw [h.2.2.2.2.2.2.2.2.1 i i64.1 i64.2 s, if_neg (by omega)]
    have hpr := hpi i i64.1 i64.2
    have z1 : zInR (i + 1) := ⟨by omega, by omega⟩
    have z2 : zInR (kept + 1) := ⟨by omega, by omega⟩
    have hc6 := hcm i i64.1 (by omega)
    have c6 := con 6
    have c5 := con 5
    by_cases hd : c 10 (pi i) 5 = tk
    · have z3 : zInR (hi 10 (pi i) 6 - 1) := ⟨by omega, by omega⟩
      have z4 : zInR (hi 10 (pi i) 5 + 1) := ⟨by omega, by omega⟩
      have u6 : upM tk (c 10 (pi i)) 6 = c 10 (pi i) 6 - 1 := by rw [upM_eq hd, if_neg (by decide), if_pos rfl]
      have e1 : ∀ k, k ≠ 10 → zup (zup hi 10 (pi i) 6 ((hi 10 (pi i) 6) - 1)) 10 (pi i) 5 ((hi 10 (pi i) 5) + 1) k = hi k := fun k hk => (zup_kf _ _ _ _ hk).trans (zup_kf _ _ _ _ hk)
      have e2 : ∀ p, p ≠ pi i → zup (zup hi 10 (pi i) 6 ((hi 10 (pi i) 6) - 1)) 10 (pi i) 5 ((hi 10 (pi i) 5) + 1) 10 p = hi 10 p := fun p hp => (zup_jf _ _ _ hp).trans (zup_jf _ _ _ hp)
      have e3 : ∀ s, zup (zup hi 10 (pi i) 6 ((hi 10 (pi i) 6) - 1)) 10 (pi i) 5 ((hi 10 (pi i) 5) + 1) 10 (pi i) s = upM tk (c 10 (pi i)) s := by
        intro s
        rw [upM_eq hd, zup_at, zup_at, c5, c6, con s]
      by_cases hq : c 10 (pi i) 6 - 1 ≤ 0
      · obtain ⟨kept', hi', hr', pi'', sg', F, w⟩ := ih kept (i + 1) _ hr pi' sg (some (.inr (some (10, pi i)))) (by omega) (h.drop inj (by omega) e1 e2 e3 (by omega))
        exact ⟨kept', hi', hr', pi'', sg', F, fun P hP => GX5_forgetCome_4 hR' tk kept i u4 ⟨fun q => absurd q (by omega), fun _ => ⟨fun q => absurd q (by omega), fun _ => ⟨i64, pi i, hri, hpr, fun q => absurd hd (by omega), fun _ => ⟨z3, z4, fun _ => ⟨z1, w P hP⟩, fun q => absurd q (by omega)⟩⟩⟩⟩⟩
      · obtain ⟨kept', hi', hr', pi'', sg', F, w⟩ := ih (kept + 1) (i + 1) _ _ _ _ (some (.inr (some (10, pi i)))) (by omega) (h.keep inj (by omega) e1 e2 e3 (by omega))
        exact ⟨kept', hi', hr', pi'', sg', F, fun P hP => GX5_forgetCome_4 hR' tk kept i u4 ⟨fun q => absurd q (by omega), fun _ => ⟨fun q => absurd q (by omega), fun _ => ⟨i64, pi i, hri, hpr, fun q => absurd hd (by omega), fun _ => ⟨z3, z4, fun q => absurd q (by omega), fun _ => ⟨fun q => absurd q (by omega), fun _ => ⟨k64, pi' kept, hrk.1, hrk.2, i64, k64, z2, z1, w P hP⟩⟩⟩⟩⟩⟩⟩
    · have u6 : upM tk (c 10 (pi i)) 6 = c 10 (pi i) 6 := upM_ne hd 6
      obtain ⟨kept', hi', hr', pi'', sg', F, w⟩ := ih (kept + 1) (i + 1) hi _ _ _ (some (.inr (some (10, pi i)))) (by omega) (h.keep inj (by omega) (fun _ _ => rfl) (fun _ _ => rfl) (fun s => by rw [con s, upM_ne hd]) (by omega))
      exact ⟨kept', hi', hr', pi'', sg', F, fun P hP => GX5_forgetCome_4 hR' tk kept i u4 ⟨fun q => absurd q (by omega), fun _ => ⟨fun q => absurd q (by omega), fun _ => ⟨i64, pi i, hri, hpr, fun _ => ⟨fun q => absurd q (by omega), fun _ => ⟨fun q => absurd q (by omega), fun _ => ⟨k64, pi' kept, hrk.1, hrk.2, i64, k64, z2, z1, w P hP⟩⟩⟩, fun q => absurd hd (by omega)⟩⟩⟩⟩
theorem upM_bd {tk : Int} {o : Int → Int} (h6 : o 6 = 1 ∨ o 6 = 2) (hd : tk ≤ o 5) : tk + 1 ≤ upM tk o 5 ∧ upM tk o 5 + upM tk o 6 = o 5 + o 6 ∧ upM tk o 6 ≤ 2 ∧ 0 ≤ upM tk o 6 ∧ upM tk o 0 = o 0 ∧ upM tk o 1 = o 1 ∧ upM tk o 2 = o 2 ∧ upM tk o 3 = o 3 ∧ upM tk o 4 = o 4 ∧ upM tk o 6 = o 6 - (if o 5 = tk then 1 else 0) := by
  by_cases q : o 5 = tk
  · simp only [upM_eq q]
    simp [q]
    omega
  · simp only [upM_ne q]
    simp [q]
    omega
theorem RlG.forgot {c : zI} {r : zR} {pi nm : Int → Int} {vn tk kept sent cm : Int} {hi : zI} {hr : zR} {pi' sg : Int → Int} {m54 m55 m69 m70 m77 m59 m60 m61 m62 m63 m64 m65 : Int → Int}
    (h : RlGm (c 7 0 3) pi nm (r 9 0) (c 10) (c 7 0 3) vn tk sent cm m54 m55 m69 m70 m77 m59 m60 m61 m62 m63 m64 m65) (F : Fg c r pi (c 7 0 3) tk kept (c 7 0 3) hi hr pi' sg) :
    RlG (hr 9 0) (hi 10) kept vn tk 1 0 sent cm m54 m55 m69 m70 m77 m59 m60 m61 m62 m63 m64 m65 := by
  obtain ⟨g1, g2, g3, g4, g5, g6, g7, g8, g9, g10, g11, g12⟩ := h
  obtain ⟨f1, f2, f3, f4, f5, f6, f7, f8, f9, f10, f11, f12, f13⟩ := F
  have bd : ∀ j, 0 ≤ j → j < c 7 0 3 → _ := fun j a b => upM_bd (tk := tk) (o := c 10 (pi j)) (g6 j a b).2.2.2.1 (by have := (g6 j a b).2.2.2.2.1; omega)
  have val : ∀ q, 0 ≤ q → q < kept → ∀ s, hi 10 (pi' q) s = upM tk (c 10 (pi (sg q))) s := by
    intro q a b s
    obtain ⟨z1, z2, z3, z4⟩ := f10 q a b
    rw [z3, f9 _ z1 (by omega) s, if_pos z2]
  refine ⟨pi', fun q => nm (sg q), f3, f4, f5, by omega, fun q q' a b d => ?_, fun q a b => ?_, ?_, g8, g9, fun k a b => ?_, fun q x a b d e => ?_, g12⟩
  · exact g5 _ _ (f10 q a (by omega)).1 (f11 q q' a b d) (f10 q' (by omega) d).2.1
  · obtain ⟨z1, z2, z3, z4⟩ := f10 q a b
    obtain ⟨k1, k2, k3, k4, k5, k6, k7, k8, k9, k10, k11⟩ := g6 _ z1 z2
    obtain ⟨b1, b2, b3, b4, b5, b6, b7, b8, b9, b10⟩ := bd _ z1 z2
    unfold RlM1
    simp only [val q a b]
    rw [b5, b6, b7, b8, b9]
    exact ⟨k1, k2, k3, by omega, b1, by omega, by omega, k8, k9, k10, k11⟩
  · rw [g7]
    refine Eq.trans ?_ ((f13.symm).trans (smI_cong _ (fun q a b => ?_)))
    · refine smI_cong _ (fun j a b => ?_)
      obtain ⟨b1, b2, b3, b4, b5, b6, b7, b8, b9, b10⟩ := bd j a (by omega)
      rw [b10]
      have : (j < c 7 0 3 ∧ c 10 (pi j) 5 = tk) ↔ c 10 (pi j) 5 = tk := ⟨fun z => z.2, fun z => ⟨by omega, z⟩⟩
      simp only [this]
    · exact (val q a (by omega) 6).symm
  · obtain ⟨j, x, x1, x2, x3, x4, x5, x6, x7, x8, x9, x10, x11, x12⟩ := g10 k a b
    obtain ⟨b1, b2, b3, b4, b5, b6, b7, b8, b9, b10⟩ := bd j x1 x2
    have pos : 0 < upM tk (c 10 (pi j)) 6 := by
      by_cases z : c 10 (pi j) 5 = tk
      · rw [b10, if_pos z]
        have : x ≠ 0 := fun y => x5 ⟨x2, z, y⟩
        omega
      · rw [b10, if_neg z]; omega
    obtain ⟨q, q1, q2, q3⟩ := f12 j x1 x2 pos
    simp only [val q q1 q2]
    refine ⟨q, x - (if c 10 (pi j) 5 = tk then 1 else 0), q1, q2, ?_⟩
    simp only [val q q1 q2, q3]
    rw [b5, b6, b7, b8, b9]
    by_cases z : c 10 (pi j) 5 = tk
    · rw [if_pos z] at b10 ⊢
      have : x ≠ 0 := fun y => x5 ⟨x2, z, y⟩
      exact ⟨by omega, by omega, by omega, x7, x8, x9, x10, x11, x12⟩
    · rw [if_neg z] at b10 ⊢
      exact ⟨by omega, by omega, by omega, x7, x8, x9, x10, x11, x12⟩
  · obtain ⟨z1, z2, z3, z4⟩ := f10 q a b
    obtain ⟨b1, b2, b3, b4, b5, b6, b7, b8, b9, b10⟩ := bd _ z1 z2
    rw [val q a b] at e
    rw [val q a b]
    by_cases z : c 10 (pi (sg q)) 5 = tk
    · rw [if_pos z] at b10
      obtain ⟨k, y1, y2, y3, y4⟩ := g11 (sg q) (x + 1) z1 z2 (by omega) (by omega) (fun y => by omega)
      exact ⟨k, y1, y2, by omega, y4⟩
    · rw [if_neg z] at b10
      obtain ⟨k, y1, y2, y3, y4⟩ := g11 (sg q) x z1 z2 (by omega) (by omega) (fun y => z y.2.1)
      exact ⟨k, y1, y2, by omega, y4⟩
