/-! THE REFERENCE'S WORK, whole -/
def zMC (M : zM) (P : zP) : Prop := zDm M P ∧ (∀ i, i < pn P → M 42 i = zway P i) ∧ (∀ i, i < pn P → M 43 i = zear P i) ∧ (∀ i, i < pn P → M 44 i = (zls P (zway P) (pn P)).1 i) ∧ (∀ k, k < pn P → M 45 k = zod P (zway P) k) ∧ (∀ i, i < pn P → M 46 i = (zio P (fun k => k) (pn P)).1 i) ∧ (∀ i, i < pn P → M 47 i = (zio P (zod P (zway P)) (pn P)).1 i) ∧ M 34 17 = (if 7 < pn P then -3 else zshort P) ∧ ∃ f, zIsW P f 0
def zMI (M : zM) (P : zP) : Prop := zBm M P ∧ zWf P ∧ (M 34 9 = 0 ∨ M 34 9 = 1) ∧ (M 34 9 = 1 → zMC M P)
def zMS (M : zM) (A : zA) : Prop := zMI M A.1 ∧ (∀ i, i < pn A.1 → M 48 i = A.2.1 i) ∧ (∀ i, i < pn A.1 → M 48 i = -3 ∨ (0 ≤ M 48 i ∧ M 48 i ≤ 1000)) ∧ M 34 20 = A.2.2.1.1 ∧ M 34 21 = A.2.2.1.2 ∧ (∀ k, k < 16 → M 51 k = A.2.2.2.1.1 k) ∧ (∀ k, k < 64 → M 52 k = A.2.2.2.1.2 k) ∧ (∀ k, k < 16 → M 53 k = A.2.2.2.2.1 k) ∧ ∀ k, k < 64 → M 54 k = A.2.2.2.2.2 k
/-- what is not the reference's stays -/
def zFM (M M1 : zM) : Prop := ∀ a, a < 34 → M1 a = M a
theorem zFM_rf {M : zM} : zFM M M := fun _ _ => rfl
theorem zFM_tr {M M1 M2 : zM} (h : zFM M M1) (h2 : zFM M1 M2) : zFM M M2 := fun a ha => by rw [h2 a ha, h a ha]
theorem zBm_34 {M N : zM} {P : zP} (h : zBm M P) (h5 : N 34 5 = M 34 5) (h7 : N 34 7 = M 34 7) (e : ∀ a, 35 ≤ a → a ≤ 40 → N a = M a) : zBm N P := by
  unfold zBm at h ⊢
  rw [h5, h7, e 35 (by omega) (by omega), e 36 (by omega) (by omega), e 37 (by omega) (by omega), e 38 (by omega) (by omega), e 39 (by omega) (by omega), e 40 (by omega) (by omega)]
  exact h
section ZX
variable {L : Nat} {M : zM} {P : zP}
theorem sp_w_row {d : Nat} {Q : Option zV → zM → Prop} {o1 o2 : Option zV} (hB : zBm M P) (hw : zWf P) (k : ∀ (M1 : zM) (p1 : Option zV), (∀ a, a ≠ 49 → M1 a = M a) → (∀ p : Nat, p < pn P → M1 49 p = (p : Int)) → zr (zSh L) d tX8_work 280 [some (zvr 34), p1, o2] [] M1 Q) : zr (zSh L) d tX8_work 257 [some (zvr 34), o1, o2] [] M Q := by
  have h60 := hw.1
  have fill : ∀ (u i : Nat) (N : zM), i + u = pn P → (∀ a, a ≠ 49 → N a = M a) → (∀ p : Nat, p < i → N 49 p = (p : Int)) → zr (zSh L) d tX8_work 259 [some (zvr 34), some (zvi i), o2] [] N Q := by
    intro u
    induction u with
    | zero =>
      intro i N hi hN hE
      have hn : N 34 5 = pn P := by rw [hN 34 (by decide)]; exact hB.1
      repeat refine zr_s rfl rfl rfl ?_
      rw [hn]
      refine zr_ige rfl (by omega) (by omega) (fun h => ?_) (fun h => by omega)
      exact k N _ hN (fun p hp => hE p (by omega))
    | succ u ih =>
      intro i N hi hN hE
      have hn : N 34 5 = pn P := by rw [hN 34 (by decide)]; exact hB.1
      repeat refine zr_s rfl rfl rfl ?_
      rw [hn]
      refine zr_ige rfl (by omega) (by omega) (fun h => by omega) (fun h => ?_)
      repeat refine zr_s rfl rfl rfl ?_
      refine zr_ast (i) rfl rfl rfl (by omega) (by decide) ?_
      repeat refine zr_s rfl rfl rfl ?_
      refine zr_b rfl rfl ?_
      refine ih (i + 1) _ (by omega) (fun a ha => by rw [zup_row ha]; exact hN a ha) (fun p hp => ?_)
      by_cases hpi : p = i
      · rw [hpi, zup_at]
      · rw [zup_off hpi]
        exact hE p (by omega)
  repeat refine zr_t 259 rfl rfl rfl rfl ?_
  exact fill (pn P) 0 M (by omega) (fun _ _ => rfl) (fun p hp => by omega)
theorem sp_w_row2 {d : Nat} {Q : Option zV → zM → Prop} {o1 o2 : Option zV} (hB : zBm M P) (hw : zWf P) (k : ∀ (M1 : zM) (p1 : Option zV), (∀ a, a ≠ 49 → M1 a = M a) → (∀ p, p < pn P → M1 49 p = M 45 p) → zr (zSh L) d tX8_work 316 [some (zvr 34), p1, o2] [] M1 Q) : zr (zSh L) d tX8_work 288 [some (zvr 34), o1, o2] [] M Q := by
  have h60 := hw.1
  have fill : ∀ (u i : Nat) (N : zM), i + u = pn P → (∀ a, a ≠ 49 → N a = M a) → (∀ p, p < i → N 49 p = M 45 p) → zr (zSh L) d tX8_work 290 [some (zvr 34), some (zvi i), o2] [] N Q := by
    intro u
    induction u with
    | zero =>
      intro i N hi hN hE
      have hn : N 34 5 = pn P := by rw [hN 34 (by decide)]; exact hB.1
      repeat refine zr_s rfl rfl rfl ?_
      rw [hn]
      refine zr_ige rfl (by omega) (by omega) (fun h => ?_) (fun h => by omega)
      exact k N _ hN (fun p hp => hE p (by omega))
    | succ u ih =>
      intro i N hi hN hE
      have hn : N 34 5 = pn P := by rw [hN 34 (by decide)]; exact hB.1
      repeat refine zr_s rfl rfl rfl ?_
      rw [hn]
      refine zr_ige rfl (by omega) (by omega) (fun h => by omega) (fun h => ?_)
      repeat refine zr_s rfl rfl rfl ?_
      refine zr_ald (i) rfl rfl rfl (by omega) (by decide) ?_
      refine zr_ast (i) rfl rfl rfl (by omega) (by decide) ?_
      repeat refine zr_s rfl rfl rfl ?_
      refine zr_b rfl rfl ?_
      refine ih (i + 1) _ (by omega) (fun a ha => by rw [zup_row ha]; exact hN a ha) (fun p hp => ?_)
      by_cases hpi : p = i
      · rw [hpi, zup_at, hN 45 (by decide)]
      · rw [zup_off hpi]
        exact hE p (by omega)
  repeat refine zr_t 290 rfl rfl rfl rfl ?_
  exact fill (pn P) 0 M (by omega) (fun _ _ => rfl) (fun p hp => by omega)
theorem sp_M_work (hI : zMI M P) : zf (zSh L) 6 kX8_work [zvr 34] M (fun v M1 => v = none ∧ M1 34 9 = 1 ∧ zMI M1 P ∧ (∀ a, a < 34 ∨ a = 48 ∨ 51 ≤ a → M1 a = M a) ∧ ∀ q, q ≠ 9 → q ≠ 17 → M1 34 q = M 34 q) := by
  have hI0 := hI
  obtain ⟨hB, hw, h9, hC⟩ := hI
  have h60 := hw.1
  refine zf_of rfl (Nat.le_of_ble_eq_true rfl) ?_
  repeat refine zr_s rfl rfl rfl ?_
  rcases h9 with h9 | h9
  rotate_left
  · rw [h9]
    refine zr_zeq rfl (by decide) (fun h => by cases h) (fun _ => ?_)
    exact zr_retv rfl (⟨rfl, h9, hI0, fun _ _ => rfl, fun _ _ _ => rfl⟩)
  rw [h9]
  refine zr_zeq rfl (by decide) (fun _ => ?_) (fun h => absurd rfl h)
  repeat refine zr_t 13 rfl rfl rfl rfl ?_
  have e34 : ∀ q, q ≠ 9 → zup M 34 9 1 34 q = M 34 q := fun q hq => zup_off hq
  have e349 : zup M 34 9 1 34 9 = 1 := zup_at
  have eoff : ∀ a, a ≠ 34 → zup M 34 9 1 a = M a := fun a ha => zup_row ha
  generalize zup M 34 9 1 = M0 at *
  have hB0 : zBm M0 P := zBm_34 hB (e34 5 (by decide)) (e34 7 (by decide)) (fun a h1 h2 => eoff a (by omega))
  refine sp_w_delays (d := 0) hB0 hw (fun M1 _ _ r1 hD1 => ?_)
  have hB1 : zBm M1 P := zBm_of hB0 (fun a h1 h2 => r1 a (by omega))
  refine sp_w_ways (d := 0) hB1 hw hD1 (fun M2 _ _ r2 hW2 => ?_)
  have hB2 : zBm M2 P := zBm_of hB1 (fun a h1 h2 => r2 a (by omega))
  have hD2 : zDm M2 P := fun a b ha hb => by rw [r2 41 (by decide)]; exact hD1 a b ha hb
  refine sp_w_early (d := 0) hB2 hw hD2 (fun M3 _ _ r3 hE3 => ?_)
  have hB3 : zBm M3 P := zBm_of hB2 (fun a h1 h2 => r3 a (by omega))
  have hD3 : zDm M3 P := fun a b ha hb => by rw [r3 41 (by decide)]; exact hD2 a b ha hb
  have hway : ∀ i, i < pn P → M2 42 i = zway P i := fun i hi => zway_eq hW2 hi
  have hWI : ∀ i, i < pn P → zI (zway P i) := fun i hi => by
    have := zIsW_I hw hW2 (pn P - i) i (by omega) (by omega) hi
    rw [← hway i hi]
    exact ⟨by omega, by omega⟩
  repeat refine zr_s rfl rfl rfl ?_
  refine zr_c rfl rfl rfl (zf_mono (Nat.le_of_ble_eq_true rfl) (sp_M_makeList (W := zway P) hB3 hw hD3 (fun i hi => ⟨by rw [r3 42 (by decide)]; exact hway i hi, hWI i hi⟩))) (fun v M4 hv => ?_)
  obtain ⟨rfl, r4, hl4, ho4⟩ := hv
  have hB4 : zBm M4 P := zBm_of hB3 (fun a h1 h2 => r4 a (by omega) (by omega))
  have hD4 : zDm M4 P := fun a b ha hb => by rw [r4 41 (by decide) (by decide)]; exact hD3 a b ha hb
  refine sp_w_row hB4 hw (fun M5 _ r5 hR5 => ?_)
  have hB5 : zBm M5 P := zBm_of hB4 (fun a h1 h2 => r5 a (by omega))
  have hD5 : zDm M5 P := fun a b ha hb => by rw [r5 41 (by decide)]; exact hD4 a b ha hb
  repeat refine zr_s rfl rfl rfl ?_
  refine zr_c rfl rfl rfl (zf_mono (Nat.le_of_ble_eq_true rfl) (sp_M_inOrder (c := 45) (ord := fun k => k) hB5 hw hD5 rfl (by decide) (fun p hp => ⟨hR5 p hp, hp⟩) (fun p q _ _ h => h))) (fun v M6 hv => ?_)
  obtain ⟨rfl, r6, hs6⟩ := hv
  have hB6 : zBm M6 P := zBm_of hB5 (fun a h1 h2 => r6 a (by omega))
  have hD6 : zDm M6 P := fun a b ha hb => by rw [r6 41 (by decide)]; exact hD5 a b ha hb
  refine sp_w_row2 hB6 hw (fun M7 _ r7 hR7 => ?_)
  have hB7 : zBm M7 P := zBm_of hB6 (fun a h1 h2 => r7 a (by omega))
  have hD7 : zDm M7 P := fun a b ha hb => by rw [r7 41 (by decide)]; exact hD6 a b ha hb
  obtain ⟨d1, d2, d3, d4⟩ := zod_P hw (zway P)
  have hod : ∀ p, p < pn P → M7 49 p = zod P (zway P) p := fun p hp => by
    rw [hR7 p hp, r6 45 (by decide), r5 45 (by decide), ho4 p hp]
    exact (d1 p hp).1
  repeat refine zr_s rfl rfl rfl ?_
  refine zr_c rfl rfl rfl (zf_mono (Nat.le_of_ble_eq_true rfl) (sp_M_inOrder (c := 46) (ord := zod P (zway P)) hB7 hw hD7 rfl (by decide) (fun p hp => ⟨hod p hp, (d1 p hp).2⟩) (fun p q hp hq h => zod_inj hw (zway P) hp hq h))) (fun v M8 hv => ?_)
  obtain ⟨rfl, r8, hs8⟩ := hv
  have hB8 : zBm M8 P := zBm_of hB7 (fun a h1 h2 => r8 a (by omega))
  have hD8 : zDm M8 P := fun a b ha hb => by rw [r8 41 (by decide)]; exact hD7 a b ha hb
  have fin : ∀ (M9 : zM) (x : Int) (p1 p2 : Option zV), (∀ a, a ≠ 49 → a ≠ 50 → M9 a = M8 a) → x = (if 7 < pn P then -3 else zshort P) → zr (zSh L) 5 tX8_work 343 [some (zvr 34), p1, p2] [zvi x, zvr 34] M9 (fun v M1 => v = none ∧ M1 34 9 = 1 ∧ zMI M1 P ∧ (∀ a, a < 34 ∨ a = 48 ∨ 51 ≤ a → M1 a = M a) ∧ ∀ q, q ≠ 9 → q ≠ 17 → M1 34 q = M 34 q) := by
    intro M9 x p1 p2 r9 hx
    have all : ∀ a, a < 34 ∨ (34 ≤ a ∧ a ≤ 40) ∨ a = 48 ∨ 51 ≤ a → M9 a = M0 a := fun a ha => by
      rw [r9 a (by omega) (by omega), r8 a (by omega), r7 a (by omega), r6 a (by omega), r5 a (by omega), r4 a (by omega) (by omega), r3 a (by omega), r2 a (by omega), r1 a (by omega)]
    have x41 : M9 41 = M1 41 := by rw [r9 41 (by decide) (by decide), r8 41 (by decide), r7 41 (by decide), r6 41 (by decide), r5 41 (by decide), r4 41 (by decide) (by decide), r3 41 (by decide), r2 41 (by decide)]
    have x42 : M9 42 = M2 42 := by rw [r9 42 (by decide) (by decide), r8 42 (by decide), r7 42 (by decide), r6 42 (by decide), r5 42 (by decide), r4 42 (by decide) (by decide), r3 42 (by decide)]
    have x43 : M9 43 = M3 43 := by rw [r9 43 (by decide) (by decide), r8 43 (by decide), r7 43 (by decide), r6 43 (by decide), r5 43 (by decide), r4 43 (by decide) (by decide)]
    have x44 : M9 44 = M4 44 := by rw [r9 44 (by decide) (by decide), r8 44 (by decide), r7 44 (by decide), r6 44 (by decide), r5 44 (by decide)]
    have x45 : M9 45 = M4 45 := by rw [r9 45 (by decide) (by decide), r8 45 (by decide), r7 45 (by decide), r6 45 (by decide), r5 45 (by decide)]
    have x46 : M9 46 = M6 46 := by rw [r9 46 (by decide) (by decide), r8 46 (by decide), r7 46 (by decide)]
    have x47 : M9 47 = M8 47 := r9 47 (by decide) (by decide)
    repeat refine zr_s rfl rfl rfl ?_
    have row : ∀ a, a ≠ 34 → zup M9 34 17 x a = M9 a := fun a ha => zup_row ha
    have f34 : ∀ q, q ≠ 9 → q ≠ 17 → zup M9 34 17 x 34 q = M 34 q := fun q h1 h2 => by rw [zup_off h2, all 34 (by omega), e34 q h1]
    have f9 : zup M9 34 17 x 34 9 = 1 := by rw [zup_off (by decide), all 34 (by omega)]; exact e349
    refine zr_retv rfl ⟨rfl, f9, ⟨zBm_34 hB (f34 5 (by decide) (by decide)) (f34 7 (by decide) (by decide)) (fun a h1 h2 => by rw [row a (by omega), all a (by omega), eoff a (by omega)]), hw, Or.inr f9, fun _ => ?_⟩, fun a ha => by rw [row a (by omega), all a (by omega), eoff a (by omega)], f34⟩
    unfold zMC
    have hDN : zDm (zup M9 34 17 x) P := fun a b ha hb => by rw [row 41 (by decide), x41]; exact hD1 a b ha hb
    rw [row 42 (by decide), row 43 (by decide), row 44 (by decide), row 45 (by decide), row 46 (by decide), row 47 (by decide), x42, x43, x44, x45, x46, x47]
    refine ⟨hDN, hway, fun i hi => zear_eq hE3 hi, hl4, fun p hp => by rw [ho4 p hp]; exact (d1 p hp).1, hs6, fun i hi => ?_, by rw [zup_at]; exact hx, ⟨_, hW2⟩⟩
    obtain ⟨p, p1, p2⟩ := d2 i hi
    rw [← p2]
    exact hs8 p p1
  repeat refine zr_s rfl rfl rfl ?_
  rw [hB8.1]
  refine zr_ile rfl (by omega) (by decide) (fun h => ?_) (fun h => ?_)
  · repeat refine zr_s rfl rfl rfl ?_
    refine zr_c rfl rfl rfl (zf_mono (Nat.le_of_ble_eq_true rfl) (sp_M_findShortest hB8 hw hD8 (by omega))) (fun v M9 hv => ?_)
    obtain ⟨r9, r, rfl, ho⟩ := hv
    refine fin M9 r _ _ r9 ?_
    rw [if_neg (by omega)]
    exact yOpt_uniq ho (yshort hw (by omega) hW2)
  · repeat refine zr_t 343 rfl rfl rfl rfl ?_
    exact fin M8 _ _ _ (fun _ _ _ => rfl) (by rw [if_pos (by omega)])
end ZX
