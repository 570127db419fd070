/-! THE REFERENCE'S PLANS IN ORDER are the class's -/
theorem ylr_le {P : zP} {ord : Nat → Nat} {f : Nat → Int} {j : Nat} {c x : Int} : ∀ m, ylr P ord f j c m ≤ x ↔ c ≤ x ∧ ∀ p, p < m → 0 ≤ zdm P (ord p) j → f (ord p) + zdm P (ord p) j ≤ x
  | 0 => by
    show c ≤ x ↔ _
    exact ⟨fun h => ⟨h, fun a ha => by omega⟩, fun h => h.1⟩
  | m + 1 => by
    have ih := ylr_le (P := P) (ord := ord) (f := f) (j := j) (c := c) (x := x) m
    show (if 0 ≤ zdm P (ord m) j then max (ylr P ord f j c m) (f (ord m) + zdm P (ord m) j) else ylr P ord f j c m) ≤ x ↔ _
    by_cases h : 0 ≤ zdm P (ord m) j
    · rw [if_pos h]
      constructor
      · intro h2
        have h3 := ih.mp (by omega)
        refine ⟨h3.1, fun a ha h4 => ?_⟩
        by_cases ham : a = m
        · subst ham
          omega
        · exact h3.2 a (by omega) h4
      · intro h2
        have h3 := ih.mpr ⟨h2.1, fun a ha => h2.2 a (by omega)⟩
        have h4 := h2.2 m (by omega) h
        omega
    · rw [if_neg h, ih]
      constructor
      · intro h2
        refine ⟨h2.1, fun a ha h4 => ?_⟩
        by_cases ham : a = m
        · subst ham
          exact absurd h4 h
        · exact h2.2 a (by omega) h4
      · intro h2
        exact ⟨h2.1, fun a ha => h2.2 a (by omega)⟩
theorem zdm_ge {P : zP} (hw : zWf P) {i j : Nat} (hj : j < pn P) : 0 ≤ zdm P i j ↔ i < j ∧ zdc P i j ≠ -3 := by
  constructor
  · intro h
    have h1 : i < j := by
      apply Decidable.byContradiction
      intro z
      unfold zdm at h
      rw [if_neg z] at h
      omega
    exact ⟨h1, (zdm_0 hw h1 hj).1.mp h⟩
  · rintro ⟨h1, h2⟩
    exact (zdm_0 hw h1 hj).1.mpr h2
theorem zdm_dc {P : zP} (hw : zWf P) {i j : Nat} (hj : j < pn P) (h : 0 ≤ zdm P i j) : zdm P i j = zdc P i j := by
  obtain ⟨h1, h2⟩ := (zdm_ge hw hj).mp h
  exact ((zdm_0 hw h1 hj).2 h2).1
theorem ylr_eq {P : zP} (hw : zWf P) {ord : Nat → Nat} {f : Nat → Int} {j k : Nat} {c : Int} (hj : j < pn P) (hc : 0 ≤ c) (h1 : ∀ a, a < j → 0 ≤ f a → ∃ p, p < k ∧ ord p = a) (h2 : ∀ p, p < k → 0 ≤ f (ord p)) : ylr P ord f j c k = max c (zlc (fun a => zdc P a j) f j) := by
  have key : ∀ x, ylr P ord f j c k ≤ x ↔ max c (zlc (fun a => zdc P a j) f j) ≤ x := by
    intro x
    have e : max c (zlc (fun a => zdc P a j) f j) ≤ x ↔ c ≤ x ∧ zlc (fun a => zdc P a j) f j ≤ x := by omega
    rw [ylr_le, e, zlc_le]
    constructor
    · rintro ⟨g1, g2⟩
      refine ⟨g1, by omega, fun a ha g3 g4 => ?_⟩
      obtain ⟨p, p1, p2⟩ := h1 a ha g4
      subst p2
      have g5 : 0 ≤ zdm P (ord p) j := (zdm_ge hw hj).mpr ⟨ha, g3⟩
      have g6 := g2 p p1 g5
      rw [zdm_dc hw hj g5] at g6
      exact g6
    · rintro ⟨g1, -, g2⟩
      refine ⟨g1, fun p hp g5 => ?_⟩
      obtain ⟨g3, g4⟩ := (zdm_ge hw hj).mp g5
      rw [zdm_dc hw hj g5]
      exact g2 (ord p) g3 g4 (h2 p hp)
  have a1 := (key _).mp (Int.le_refl _)
  have a2 := (key _).mpr (Int.le_refl _)
  omega
theorem ylr_congr {P : zP} {ord : Nat → Nat} {f g : Nat → Int} {j : Nat} {c : Int} : ∀ m, (∀ p, p < m → f (ord p) = g (ord p)) → ylr P ord f j c m = ylr P ord g j c m
  | 0, _ => rfl
  | m + 1, h => by
    show (if 0 ≤ zdm P (ord m) j then max (ylr P ord f j c m) (f (ord m) + zdm P (ord m) j) else ylr P ord f j c m) = (if 0 ≤ zdm P (ord m) j then max (ylr P ord g j c m) (g (ord m) + zdm P (ord m) j) else ylr P ord g j c m)
    rw [ylr_congr m (fun p hp => h p (by omega)), h m (by omega)]
/-- what stands of the class's plan in order when k have their cycles -/
def zIo (P : zP) (ord : Nat → Nat) (k : Nat) (s : (Nat → Int) × Int × Int) : Prop := (∀ a, (∀ p, p < k → ord p ≠ a) → s.1 a = -3) ∧ (∀ p, p < k → 0 ≤ s.1 (ord p) ∧ s.1 (ord p) ≤ s.2.1) ∧ (zct (fun p => s.1 (ord p)) s.2.1 k : Int) = s.2.2 ∧ 0 ≤ s.2.1 ∧ s.2.2 ≤ pu P
theorem zio_s {P : zP} (hw : zWf P) {ord : Nat → Nat} {k : Nat} {s : (Nat → Int) × Int × Int} {y : Int} (hk : k < pn P) (hord : ∀ p, p ≤ k → ord p < pn P) (hinj : ∀ p, p < k → ord p ≠ ord k) (h : zIo P ord k s) (hy : zLc P ord s.1 k (ylr P ord s.1 (ord k) s.2.1 k) y) : (zionext P s (ord k)).1 = zfu s.1 (ord k) y ∧ (zionext P s (ord k)).2.1 = y ∧ zIo P ord (k + 1) (zionext P s (ord k)) := by
  obtain ⟨h1, h2, h3, h4, h5⟩ := h
  have hu := hw.2.1
  have he := ylr_eq hw (ord := ord) (f := s.1) (j := ord k) (k := k) (c := s.2.1) (hord k (Nat.le_refl _)) h4 (fun a ha hf => by
    apply Classical.byContradiction
    intro z
    have := h1 a (fun p hp e => z ⟨p, hp, e⟩)
    omega) (fun p hp => (h2 p hp).1)
  rw [he] at hy
  obtain ⟨y1, y2, y3⟩ := hy
  have hbig : ∀ z, s.2.1 < z → zct (fun p => s.1 (ord p)) z k = 0 := fun z hz => zct_none k (fun p hp => by have := (h2 p hp).2; show s.1 (ord p) ≠ z; omega)
  have hl : zionext P s (ord k) = if s.2.1 < (if s.2.2 = pu P then max (zlc (fun a => zdc P a (ord k)) s.1 (ord k)) (s.2.1 + 1) else zlc (fun a => zdc P a (ord k)) s.1 (ord k)) then (zfu s.1 (ord k) (if s.2.2 = pu P then max (zlc (fun a => zdc P a (ord k)) s.1 (ord k)) (s.2.1 + 1) else zlc (fun a => zdc P a (ord k)) s.1 (ord k)), (if s.2.2 = pu P then max (zlc (fun a => zdc P a (ord k)) s.1 (ord k)) (s.2.1 + 1) else zlc (fun a => zdc P a (ord k)) s.1 (ord k)), 1) else (zfu s.1 (ord k) s.2.1, s.2.1, s.2.2 + 1) := rfl
  generalize hz : zlc (fun a => zdc P a (ord k)) s.1 (ord k) = z at *
  have hold : ∀ (x : Int) p, p < k → zfu s.1 (ord k) x (ord p) = s.1 (ord p) := fun x p hp => zfu_off (hinj p hp)
  have hct : ∀ (x c : Int), zct (fun p => zfu s.1 (ord k) x (ord p)) c (k + 1) = zct (fun p => s.1 (ord p)) c k + if x = c then 1 else 0 := by
    intro x c
    show zct (fun p => zfu s.1 (ord k) x (ord p)) c k + (if zfu s.1 (ord k) x (ord k) = c then 1 else 0) = _
    rw [zfu_at, zct_congr k (fun p hp => hold x p hp)]
  have fin : ∀ (x q : Int), (zionext P s (ord k)) = (zfu s.1 (ord k) x, x, q) → x = y → s.2.1 ≤ x → (zct (fun p => zfu s.1 (ord k) x (ord p)) x (k + 1) : Int) = q → q ≤ pu P → (zionext P s (ord k)).1 = zfu s.1 (ord k) y ∧ (zionext P s (ord k)).2.1 = y ∧ zIo P ord (k + 1) (zionext P s (ord k)) := by
    intro x q e1 e2 e3 e4 e5
    subst e2
    rw [e1]
    refine ⟨rfl, rfl, fun a ha => ?_, fun p hp => ?_, e4, by show 0 ≤ x; omega, e5⟩
    · show zfu s.1 (ord k) x a = -3
      rw [zfu_off (fun e => ha k (by omega) e.symm)]
      exact h1 a (fun p hp => ha p (by omega))
    · show 0 ≤ zfu s.1 (ord k) x (ord p) ∧ zfu s.1 (ord k) x (ord p) ≤ x
      by_cases hpk : p = k
      · rw [hpk, zfu_at]
        omega
      · rw [hold x p (by omega)]
        have := h2 p (by omega)
        omega
  by_cases hzc : s.2.1 < z
  · -- the delays decide
    have hyz : y = z := by
      have : ¬ z < y := fun hlt => by
        have := y3 z (by omega) hlt
        rw [hbig z hzc] at this
        omega
      omega
    have hlz : (if s.2.2 = pu P then max z (s.2.1 + 1) else z) = z := by split <;> omega
    rw [hlz, if_pos hzc] at hl
    refine fin z 1 hl hyz.symm (by omega) ?_ (by omega)
    rw [hct, hbig z hzc, if_pos rfl]
    rfl
  · have hmx : max s.2.1 z = s.2.1 := by omega
    rw [hmx] at y1 y3
    by_cases hq : s.2.2 = pu P
    · rw [if_pos hq] at hl
      have h1c : max z (s.2.1 + 1) = s.2.1 + 1 := by omega
      rw [h1c, if_pos (by omega)] at hl
      have hyz : y = s.2.1 + 1 := by
        have g1 : y ≠ s.2.1 := fun e => by
          rw [e] at y2
          omega
        have : ¬ s.2.1 + 1 < y := fun hlt => by
          have := y3 (s.2.1 + 1) (by omega) hlt
          rw [hbig _ (by omega)] at this
          omega
        omega
      refine fin (s.2.1 + 1) 1 hl hyz.symm (by omega) ?_ (by omega)
      rw [hct, hbig _ (by omega), if_pos rfl]
      rfl
    · rw [if_neg hq, if_neg hzc] at hl
      have hyz : y = s.2.1 := by
        have : ¬ s.2.1 < y := fun hlt => by
          have := y3 s.2.1 (Int.le_refl _) hlt
          omega
        omega
      refine fin s.2.1 (s.2.2 + 1) hl hyz.symm (Int.le_refl _) ?_ (by omega)
      rw [hct, if_pos rfl]
      push_cast
      omega
theorem zio_0 (P : zP) (ord : Nat → Nat) : zIo P ord 0 (zio P ord 0) := ⟨fun _ _ => rfl, fun p hp => by omega, rfl, Int.le_refl _, by show (0 : Int) ≤ _; omega⟩
/-- no two of the list plan's order are one -/
theorem zls_inj {P : zP} (hw : zWf P) (W : Nat → Int) : ∀ k, k ≤ pn P → ∀ p q, p < q → q < k → (zls P W k).2.1 p ≠ (zls P W k).2.1 q
  | 0, _ => fun p q h1 h2 => by omega
  | k + 1, hk => by
    obtain ⟨h1, h2, h3, h4⟩ := zls_Lk hw W k (by omega)
    obtain ⟨b, b1, b2, b3, b4⟩ := zlb2_go (P := P) (W := W) (s := zls P W k) (by omega)
    have ih := zls_inj hw W k (by omega)
    have hnx : zls P W (k + 1) = zlnext P W k (zls P W k) := rfl
    rw [zlnext_eq, b1, if_neg (by omega), Int.toNat_natCast] at hnx
    rw [hnx]
    intro p q hp hq
    show zfu (zls P W k).2.1 k b p ≠ zfu (zls P W k).2.1 k b q
    rw [zfu_off (by omega)]
    by_cases hqk : q = k
    · rw [hqk, zfu_at]
      obtain ⟨x, x1, x2, x3⟩ := h2 p (by omega)
      rw [x1]
      intro e
      have : x = b := by omega
      subst this
      exact x3 (zfree_iff.mp b3).1
    · rw [zfu_off hqk]
      exact ih p q hp (by omega)
theorem zod_inj {P : zP} (hw : zWf P) (W : Nat → Int) {p q : Nat} (hp : p < pn P) (hq : q < pn P) (h : zod P W p = zod P W q) : p = q := by
  have h1 := zls_inj hw W (pn P) (Nat.le_refl _)
  obtain ⟨e1, -⟩ := (zod_P hw W).1 p hp
  obtain ⟨e2, -⟩ := (zod_P hw W).1 q hq
  rcases Nat.lt_trichotomy p q with h2 | h2 | h2
  · exact absurd (by rw [e1, e2, h]) (h1 p q h2 hq)
  · exact h2
  · exact absurd (by rw [e1, e2, h]) (h1 q p h2 hp)
section ZX
variable {L : Nat} {M : zM} {P : zP} {ord : Nat → Nat} {c : Nat}
theorem sp_M_inOrder (hB : zBm M P) (hw : zWf P) (hD : zDm M P) (hc : (zSh L)[c + 1]? = some (.inl 60)) (hcc : 46 ≤ c + 1 ∧ c + 1 ≤ 47) (hR : ∀ p, p < pn P → M 49 p = ord p ∧ ord p < pn P) (hinj : ∀ p q, p < pn P → q < pn P → ord p = ord q → p = q) : zf (zSh L) 3 kX8_inOrder [zvr 34, zvr (c + 1)] M (fun v M1 => v = none ∧ (∀ a, a ≠ c + 1 → M1 a = M a) ∧ ∀ k, k < pn P → M1 (c + 1) (ord k) = (zio P ord (pn P)).1 (ord k)) := by
  have h60 := hw.1
  have loop : ∀ (t k : Nat) (N : zM), k + t = pn P → (∀ a, a ≠ c + 1 → N a = M a) → (∀ p, p < k → N (c + 1) (ord p) = (zio P ord k).1 (ord p)) → zIo P ord k (zio P ord k) → zr (zSh L) 2 tX8_inOrder 4 [some (zvr 34), some (zvr (c + 1)), some (zvi (zio P ord k).2.1), some (zvi k)] [] N (fun v M1 => v = none ∧ (∀ a, a ≠ c + 1 → M1 a = M a) ∧ ∀ k, k < pn P → M1 (c + 1) (ord k) = (zio P ord (pn P)).1 (ord k)) := by
    intro t
    induction t with
    | zero =>
      intro k N hk hN hE hI
      have hn : N 34 5 = pn P := by rw [hN 34 (by omega)]; exact hB.1
      repeat refine zr_s rfl rfl rfl ?_
      rw [hn]
      refine zr_ige rfl (by omega) (by omega) (fun h => ?_) (fun h => by omega)
      have hkn : k = pn P := by omega
      subst hkn
      exact zr_retv rfl ⟨rfl, hN, hE⟩
    | succ t ih =>
      intro k N hk hN hE hI
      have hn : N 34 5 = pn P := by rw [hN 34 (by omega)]; exact hB.1
      have hBN : zBm N P := zBm_of hB (fun a h1 h2 => hN a (by omega))
      have hDN : zDm N P := fun a b ha hb => by rw [hN 41 (by omega)]; exact hD a b ha hb
      have hRN : ∀ p, p < pn P → N 49 p = ord p ∧ ord p < pn P := fun p hp => by rw [hN 49 (by omega)]; exact hR p hp
      obtain ⟨z1, z2, z3, z4, z5⟩ := zio_ok hw (ord := ord) (fun p hp => (hR p hp).2) k (by omega)
      repeat refine zr_s rfl rfl rfl ?_
      rw [hn]
      refine zr_ige rfl (by omega) (by omega) (fun h => by omega) (fun h => ?_)
      repeat refine zr_s rfl rfl rfl ?_
      refine zr_c rfl rfl rfl (zf_mono (Nat.le_of_ble_eq_true rfl) (sp_M_leastCycle (ord := ord) (b := (zio P ord k).2.1) hBN hw hDN hc (by omega) (fun p hp => hRN p (by omega)) (fun p hp => by rw [hE p hp]; exact hI.2.1 p hp) ⟨z1, by omega⟩ ⟨z1, Int.le_refl _⟩)) (fun v M1 hv => ?_)
      obtain ⟨y, rfl, e0, hy, hy2⟩ := hv
      have e0 := e0.symm
      subst e0
      have hyc : zLc P ord (zio P ord k).1 k (ylr P ord (zio P ord k).1 (ord k) (zio P ord k).2.1 k) y := by
        have e1 : ylr P ord (N (c + 1)) (ord k) (zio P ord k).2.1 k = ylr P ord (zio P ord k).1 (ord k) (zio P ord k).2.1 k := ylr_congr k hE
        have e2 : ∀ z, zct (fun p => N (c + 1) (ord p)) z k = zct (fun p => (zio P ord k).1 (ord p)) z k := fun z => zct_congr k hE
        unfold zLc at hy ⊢
        rw [e1] at hy
        simp only [e2] at hy
        exact hy
      obtain ⟨s1, s2, s3⟩ := zio_s hw (by omega) (fun p hp => (hR p (by omega)).2) (fun p hp e => by have := hinj p k (by omega) (by omega) e; omega) hI hyc
      have hS : zio P ord (k + 1) = zionext P (zio P ord k) (ord k) := rfl
      repeat refine zr_s rfl rfl rfl ?_
      refine zr_ald (k) rfl rfl rfl (by omega) (by decide) ?_
      rw [(hRN k (by omega)).1]
      repeat refine zr_s rfl rfl rfl ?_
      refine zr_ast (ord k) rfl hc rfl (by have := (hR k (by omega)).2; omega) (by decide) ?_
      repeat refine zr_s rfl rfl rfl ?_
      refine zr_b rfl rfl ?_
      rw [← hS] at s1 s2 s3
      have e3 : y = (zio P ord (k + 1)).2.1 := s2.symm
      have goal := ih (k + 1) (zup N (c + 1) (ord k) y) (by omega) (fun a ha => by rw [zup_row ha]; exact hN a ha) (fun p hp => by
        rw [s1]
        by_cases hpk : p = k
        · rw [hpk, zup_at, zfu_at]
        · have hne : ord p ≠ ord k := fun e => hpk (hinj p k (by omega) (by omega) e)
          rw [zup_off hne, zfu_off hne]
          exact hE p (by omega)) s3
      rw [s2] at goal
      exact goal
  refine zf_of rfl (Nat.le_of_ble_eq_true rfl) ?_
  repeat refine zr_t 4 rfl rfl rfl rfl ?_
  exact loop (pn P) 0 M (by omega) (fun _ _ => rfl) (fun p hp => by omega) (zio_0 P ord)
end ZX
