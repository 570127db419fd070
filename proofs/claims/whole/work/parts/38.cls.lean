/-! THE CLASS: what stands between calls; refresh, shortest, add -/
def zCC (M : zM) (P : zP) : Prop := zDl M P (pn P) ∧ (∀ i, i < pn P → M 12 i = zear P i) ∧ zIsW P (M 11) 0 ∧ (∀ i, i < pn P → M 11 i = zway P i) ∧ M 9 3 = zmxr (zway P) 0 (pn P) ∧ M 9 2 = zpairs P (pn P) ∧ (∀ i, i < pn P → M 14 i = (zls P (zway P) (pn P)).1 i) ∧ (∀ k, k < pn P → M 15 k = zod P (zway P) k) ∧ (∀ i, i < pn P → M 19 i = (zio P (fun k => k) (pn P)).1 i) ∧ ∀ i, i < pn P → M 21 i = (zio P (zod P (zway P)) (pn P)).1 i
def zCI (M : zM) (P : zP) : Prop := zBk M P ∧ zWf P ∧ (∀ k, k < 60 → M 33 k = k) ∧ (∀ i, i < pn P → M 25 i = -3 ∨ (0 ≤ M 25 i ∧ M 25 i ≤ 1000)) ∧ (∀ i, pn P ≤ i → i < 60 → M 25 i = -3) ∧ (∀ i, i < 60 → -3 ≤ M 19 i ∧ M 19 i ≤ 1000) ∧ (∀ i, i < 60 → -3 ≤ M 21 i ∧ M 21 i ≤ 1000) ∧ (M 1 9 = 0 ∨ M 1 9 = 1) ∧ (M 1 10 = 0 ∨ M 1 10 = 1) ∧ (M 1 9 = 0 → zCC M P) ∧ (M 1 9 = 0 → M 1 10 = 1 → M 1 11 = zshort P)
def zCS (M : zM) (A : zA) : Prop := zCI M A.1 ∧ (∀ i, i < pn A.1 → M 25 i = A.2.1 i) ∧ M 1 12 = A.2.2.1.1 ∧ M 1 13 = A.2.2.1.2 ∧ (∀ k, k < 16 → M 27 k = A.2.2.2.1.1 k) ∧ (∀ k, k < 64 → M 28 k = A.2.2.2.1.2 k) ∧ (∀ k, k < 16 → M 29 k = A.2.2.2.2.1 k) ∧ ∀ k, k < 64 → M 30 k = A.2.2.2.2.2 k
/-- what is not the class's stays -/
def zFC (M M1 : zM) : Prop := M1 0 = M 0 ∧ ∀ a, 34 ≤ a → M1 a = M a
theorem zCS_kept {M M1 : zM} {A : zA} (h : zCS M A) (hI : zCI M1 A.1) (h25 : M1 25 = M 25) (h27 : M1 27 = M 27) (h28 : M1 28 = M 28) (h29 : M1 29 = M 29) (h30 : M1 30 = M 30) (ha : M1 1 12 = M 1 12) (hb : M1 1 13 = M 1 13) : zCS M1 A := by
  obtain ⟨-, g2, g3, g4, g5, g6, g7, g8⟩ := h
  exact ⟨hI, by rw [h25]; exact g2, by rw [ha]; exact g3, by rw [hb]; exact g4, by rw [h27]; exact g5, by rw [h28]; exact g6, by rw [h29]; exact g7, by rw [h30]; exact g8⟩
section ZX
variable {L : Nat} {M : zM} {P : zP} {A : zA}
theorem zcycI {P : zP} (hw : zWf P) (W : Nat → Int) : ∀ i, i < pn P → 0 ≤ (zls P W (pn P)).1 i ∧ (zls P W (pn P)).1 i ≤ 1000 := by
  intro i hi
  have h60 := hw.1
  obtain ⟨o1, o2, o3, o4, o5, o6⟩ := zls_ok hw W (pn P)
  rcases o5 i hi with h | h
  · exact absurd h ((zod_P hw W).2.2.2 i hi)
  · omega
theorem sp_refresh (hC : zCI M P) : zf (zSh L) 6 kX7_refresh [zvr 1] M (fun v M1 => v = none ∧ M1 1 9 = 0 ∧ zCI M1 P ∧ (∀ a, a = 0 ∨ (2 ≤ a ∧ a ≤ 8) ∨ 22 ≤ a → M1 a = M a) ∧ M1 1 12 = M 1 12 ∧ M1 1 13 = M 1 13) := by
  have hC0 := hC
  obtain ⟨hB, hw, c3, c4, c5, c6, c7, c8, c9, c10, c11⟩ := hC
  have h60 := hw.1
  refine zf_of rfl (Nat.le_of_ble_eq_true rfl) ?_
  repeat refine zr_s rfl rfl rfl ?_
  rcases c8 with h9 | h9
  · rw [h9]
    refine zr_zne rfl (by decide) (fun h => absurd rfl h) (fun _ => ?_)
    repeat refine zr_s rfl rfl rfl ?_
    exact zr_retv rfl (⟨rfl, h9, hC0, fun _ _ => rfl, rfl, rfl⟩)
  · rw [h9]
    refine zr_zne rfl (by decide) (fun _ => ?_) (fun h => by cases h)
    repeat refine zr_s rfl rfl rfl ?_
    refine zr_c rfl rfl rfl (zf_mono (Nat.le_of_ble_eq_true rfl) (sp_find hB hw)) (fun v M1 hv => ?_)
    obtain ⟨rfl, g1, g2, g3, g4, g5, g6⟩ := hv
    have hB1 : zBk M1 P := zBk_of hB (fun a h1 h2 => g1 a (by omega))
    have hWI : ∀ i, i < pn P → 1 ≤ M1 11 i ∧ M1 11 i ≤ 720 := fun i hi => by
      have := zIsW_I hw g4 (pn P - i) i (by omega) (by omega) hi
      omega
    have hway : ∀ i, i < pn P → M1 11 i = zway P i := fun i hi => zway_eq g4 hi
    repeat refine zr_s rfl rfl rfl ?_
    refine zr_c rfl rfl rfl (zf_mono (Nat.le_of_ble_eq_true rfl) (sp_makeL hB1 hw g2 (fun i hi => by have := hWI i hi; exact ⟨by omega, by omega⟩) (fun k hk => zls_go hw _ hk))) (fun v M2 hv => ?_)
    obtain ⟨rfl, q1, q2, q3⟩ := hv
    rw [zls_congr hway] at q2 q3
    have hB2 : zBk M2 P := zBk_of hB1 (fun a h1 h2 => q1 a (by omega))
    have hD2 : zDl M2 P (pn P) := fun x hx a ha => by rw [q1 10 (by omega)]; exact g2 x hx a ha
    obtain ⟨d1, d2, d3, d4⟩ := zod_P hw (zway P)
    have e33 : M2 33 = M 33 := by rw [q1 33 (by omega), g1 33 (by omega)]
    have e19 : M2 19 = M 19 := by rw [q1 19 (by omega), g1 19 (by omega)]
    have e21 : M2 21 = M 21 := by rw [q1 21 (by omega), g1 21 (by omega)]
    repeat refine zr_s rfl rfl rfl ?_
    refine zr_c rfl rfl rfl (zf_mono (Nat.le_of_ble_eq_true rfl) (sp_make_standing (ord := fun k => k) hB2 hw hD2 (fun k hk => ⟨by rw [e33]; exact c3 k (by omega), hk⟩) (zTop_id P) (by rw [e19]; exact c6))) (fun v M3 hv => ?_)
    obtain ⟨rfl, p1, p2, p3⟩ := hv
    have hB3 : zBk M3 P := zBk_of hB2 (fun a h1 h2 => p1 a (by omega))
    have hD3 : zDl M3 P (pn P) := fun x hx a ha => by rw [p1 10 (by omega)]; exact hD2 x hx a ha
    repeat refine zr_s rfl rfl rfl ?_
    refine zr_c rfl rfl rfl (zf_mono (Nat.le_of_ble_eq_true rfl) (sp_make_relisted (ord := zod P (zway P)) hB3 hw hD3 (fun k hk => ⟨by rw [p1 15 (by decide), q3 k hk]; exact (d1 k hk).1, (d1 k hk).2⟩) d3 (by rw [p1 21 (by decide), e21]; exact c7))) (fun v M4 hv => ?_)
    obtain ⟨rfl, r1, r2, r3⟩ := hv
    repeat refine zr_s rfl rfl rfl ?_
    -- the rows behind it all
    have row : ∀ a, a ≠ 1 → zup (zup M4 1 10 0) 1 9 0 a = M4 a := fun a ha => by rw [zup_row ha, zup_row ha]
    have old : ∀ a, a = 0 ∨ (2 ≤ a ∧ a ≤ 8) ∨ 22 ≤ a → M4 a = M a := fun a ha => by rw [r1 a (by omega), p1 a (by omega), q1 a (by omega), g1 a (by omega)]
    have e1 : M4 1 = M 1 := by rw [r1 1 (by decide), p1 1 (by decide), q1 1 (by omega), g1 1 (by omega)]
    have k19 : M4 19 = M3 19 := r1 19 (by decide)
    have k9 : M4 9 = M1 9 := by rw [r1 9 (by decide), p1 9 (by decide), q1 9 (by omega)]
    have k10 : M4 10 = M1 10 := by rw [r1 10 (by decide), p1 10 (by decide), q1 10 (by omega)]
    have k11 : M4 11 = M1 11 := by rw [r1 11 (by decide), p1 11 (by decide), q1 11 (by omega)]
    have k12 : M4 12 = M1 12 := by rw [r1 12 (by decide), p1 12 (by decide), q1 12 (by omega)]
    have k14 : M4 14 = M2 14 := by rw [r1 14 (by decide), p1 14 (by decide)]
    have k15 : M4 15 = M2 15 := by rw [r1 15 (by decide), p1 15 (by decide)]
    have hCC : zCC (zup (zup M4 1 10 0) 1 9 0) P := by
      unfold zCC
      have hDl : zDl (zup (zup M4 1 10 0) 1 9 0) P (pn P) := fun x hx a ha => by rw [row 10 (by decide), k10]; exact g2 x hx a ha
      rw [row 12 (by decide), row 11 (by decide), row 9 (by decide), row 14 (by decide), row 15 (by decide), row 19 (by decide), row 21 (by decide), k9, k11, k12, k14, k15, k19]
      refine ⟨hDl, fun i hi => zear_eq g3 hi, g4, hway, by rw [g5]; exact zmxr_congr0 hway, g6, q2, fun k hk => by rw [q3 k hk]; exact (d1 k hk).1, p2, fun i hi => ?_⟩
      obtain ⟨k, k1, k2⟩ := d2 i hi
      rw [← k2]
      exact r2 k k1
    refine zr_retv rfl ⟨rfl, zup_at, ?_, fun a ha => by rw [row a (by omega)]; exact old a ha, by rw [zup_off (by decide), zup_off (by decide), e1], by rw [zup_off (by decide), zup_off (by decide), e1]⟩
    refine ⟨zBk_of hB (fun a h1 h2 => by rw [row a (by omega)]; exact old a (by omega)), hw, by rw [row 33 (by decide), old 33 (by omega)]; exact c3, by rw [row 25 (by decide), old 25 (by omega)]; exact c4, by rw [row 25 (by decide), old 25 (by omega)]; exact c5, by rw [row 19 (by decide), k19]; exact p3, by rw [row 21 (by decide)]; exact r3, Or.inl zup_at, Or.inl (by rw [zup_off (by decide), zup_at]), fun _ => hCC, fun _ h => ?_⟩
    rw [zup_off (by decide), zup_at] at h
    cases h
theorem zlen_list_I {P : zP} (hw : zWf P) (W : Nat → Int) : 0 ≤ zlen P (zls P W (pn P)).1 (pn P) ∧ zlen P (zls P W (pn P)).1 (pn P) ≤ 1000000 := by
  have h60 := hw.1
  have h1 : ∀ m, m ≤ pn P → 0 ≤ zlen P (zls P W (pn P)).1 m ∧ zlen P (zls P W (pn P)).1 m ≤ 1012 := by
    intro m
    induction m with
    | zero => intro _; show (0 : Int) ≤ 0 ∧ (0 : Int) ≤ 1012; omega
    | succ m ih =>
      intro hm
      have h2 := ih (by omega)
      have h3 := zcycI hw W m (by omega)
      have h4 := zpl_le hw (i := m) (by omega)
      show 0 ≤ max _ _ ∧ max _ _ ≤ (1012 : Int)
      omega
  have := h1 (pn P) (Nat.le_refl _)
  omega
theorem zhm_congr {f W W2 : Nat → Int} {l : Int} : ∀ m, (∀ i, i < m → W i = W2 i) → zhm f W l m = zhm f W2 l m
  | 0, _ => rfl
  | m + 1, h => by
    show zhm f W l m + (if f m = -3 ∧ l ≤ W m then 1 else 0) = zhm f W2 l m + (if f m = -3 ∧ l ≤ W2 m then 1 else 0)
    rw [zhm_congr m (fun i hi => h i (by omega)), h m (by omega)]
theorem zta_congr {P : zP} {W W2 : Nat → Int} (h : ∀ i, i < pn P → W i = W2 i) : ∀ (d : Nat) (f : Nat → Int) (p : Nat) (c q b : Int), zta P W d f p c q b = zta P W2 d f p c q b
  | 0, _, _, _, _, _ => rfl
  | d + 1, f, p, c, q, b => by
    have hhb : ∀ i, i < pn P → zhb P f W c q i = zhb P f W2 c q i := by
      intro i hi
      unfold zhb
      rw [zhm_congr (W2 := W2) _ h, h i hi]
    have hhl : zhl P f W c q b (pn P) = zhl P f W2 c q b (pn P) := by
      unfold zhl
      rw [Bool.eq_iff_iff, List.any_eq_true, List.any_eq_true]
      constructor
      · rintro ⟨i, h1, h2⟩
        exact ⟨i, h1, by rw [← hhb i (List.mem_range.mp h1)]; exact h2⟩
      · rintro ⟨i, h1, h2⟩
        exact ⟨i, h1, by rw [hhb i (List.mem_range.mp h1)]; exact h2⟩
    have hg : ztg P W d f p c q = ztg P W2 d f p c q := by
      funext b i
      unfold ztg
      split
      · exact zta_congr h d _ _ _ _ _
      · rfl
    rw [zta_s, zta_s, hhl, hg]
theorem sp_shortest (hC : zCI M P) (h9 : M 1 9 = 0) : zf (zSh L) 13 kX7_shortest [zvr 1] M (fun v M1 => v = some (.inl (if 7 < pn P then -3 else zshort P)) ∧ zCI M1 P ∧ M1 1 9 = 0 ∧ (∀ a, a ≠ 1 → a ≠ 22 → a ≠ 23 → M1 a = M a) ∧ M1 1 12 = M 1 12 ∧ M1 1 13 = M 1 13) := by
  have hC0 := hC
  obtain ⟨hB, hw, c3, c4, c5, c6, c7, c8, c9, c10, c11⟩ := hC
  have h60 := hw.1
  have hn := hB.1
  have hCC := c10 h9
  obtain ⟨k1, k2, k3, k4, k5, k6, k7, k8, k9, k10⟩ := hCC
  refine zf_of rfl (Nat.le_of_ble_eq_true rfl) ?_
  repeat refine zr_s rfl rfl rfl ?_
  refine zr_ile rfl (by omega) (by decide) (fun h => ?_) (fun h => ?_)
  rotate_left
  · repeat refine zr_s rfl rfl rfl ?_
    exact zr_ret rfl (⟨by rw [if_pos (by omega)], hC0, h9, fun _ _ _ _ => rfl, rfl, rfl⟩)
  · rw [if_neg (by omega)]
    repeat refine zr_s rfl rfl rfl ?_
    rcases c9 with h10 | h10
    · rw [h10]
      refine zr_zne rfl (by decide) (fun h => absurd rfl h) (fun _ => ?_)
      repeat refine zr_s rfl rfl rfl ?_
      refine zr_cr rfl rfl rfl (zf_mono (Nat.le_of_ble_eq_true rfl) (sp_lengthOf hB hw rfl (fun i hi => by rw [k7 i hi]; have := zcycI hw (zway P) i hi; omega))) ?_
      have el : zlen P (M 14) (pn P) = zlen P (zls P (zway P) (pn P)).1 (pn P) := zlen_congr _ k7
      rw [el]
      have hWI : ∀ i, i < pn P → 0 ≤ M 11 i ∧ M 11 i ≤ 1000 := fun i hi => by
        have := zIsW_I hw k3 (pn P - i) i (by omega) (by omega) hi
        omega
      refine zr_c rfl rfl rfl (zf_mono (Nat.le_of_ble_eq_true rfl) (sp_leastLength hB hw (by omega) k1 hWI (zlen_list_I hw (zway P)))) (fun v M1 hv => ?_)
      obtain ⟨rfl, g1, g2⟩ := hv
      have ez : zta P (M 11) 7 (fun _ => -3) 0 0 0 (zlen P (zls P (zway P) (pn P)).1 (pn P)) = zshort P := zta_congr k4 7 _ _ _ _ _
      rw [ez]
      repeat refine zr_s rfl rfl rfl ?_
      have row : ∀ a, a ≠ 1 → a ≠ 22 → a ≠ 23 → zup (zup M1 1 11 (zshort P)) 1 10 1 a = M a := fun a h1 h2 h3 => by rw [zup_row h1, zup_row h1]; exact g1 a h2 h3
      have e1 : M1 1 = M 1 := g1 1 (by decide) (by decide)
      have v9 : zup (zup M1 1 11 (zshort P)) 1 10 1 1 9 = 0 := by rw [zup_off (by decide), zup_off (by decide), e1]; exact h9
      refine zr_ret rfl ⟨by rw [zup_off (by decide), zup_at], ?_, v9, row, by rw [zup_off (by decide), zup_off (by decide), e1], by rw [zup_off (by decide), zup_off (by decide), e1]⟩
      have hCC1 : zCC (zup (zup M1 1 11 (zshort P)) 1 10 1) P := by
        unfold zCC
        have hDl : zDl (zup (zup M1 1 11 (zshort P)) 1 10 1) P (pn P) := fun x hx a ha => by rw [row 10 (by decide) (by decide) (by decide)]; exact k1 x hx a ha
        rw [row 12 (by decide) (by decide) (by decide), row 11 (by decide) (by decide) (by decide), row 9 (by decide) (by decide) (by decide), row 14 (by decide) (by decide) (by decide), row 15 (by decide) (by decide) (by decide), row 19 (by decide) (by decide) (by decide), row 21 (by decide) (by decide) (by decide)]
        exact ⟨hDl, k2, k3, k4, k5, k6, k7, k8, k9, k10⟩
      refine ⟨zBk_of hB (fun a h1 h2 => row a (by omega) (by omega) (by omega)), hw, by rw [row 33 (by decide) (by decide) (by decide)]; exact c3, by rw [row 25 (by decide) (by decide) (by decide)]; exact c4, by rw [row 25 (by decide) (by decide) (by decide)]; exact c5, by rw [row 19 (by decide) (by decide) (by decide)]; exact c6, by rw [row 21 (by decide) (by decide) (by decide)]; exact c7, Or.inl v9, Or.inr zup_at, fun _ => hCC1, fun _ _ => by rw [zup_off (by decide), zup_at]⟩
    · rw [h10]
      refine zr_zne rfl (by decide) (fun _ => ?_) (fun h => by cases h)
      repeat refine zr_s rfl rfl rfl ?_
      exact zr_ret rfl (⟨by rw [c11 h9 h10], hC0, h9, fun _ _ _ _ => rfl, rfl, rfl⟩)
end ZX
