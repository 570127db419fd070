/-! THE REFERENCE'S CALLS: length, place, check, wrong, given, value -/
section ZX
variable {L : Nat} {M : zM} {P : zP} {A : zA}
theorem zMS_tl {M1 : zM} {a b : Int} (hA : zMS M A) (h : yTl true M M1 a b) : zMS M1 (A.1, A.2.1, (a, b), A.2.2.2) := by
  obtain ⟨⟨hB, hw, h9, hC⟩, g2, g3, g4, g5, g6, g7, g8, g9⟩ := hA
  obtain ⟨t1, t2, t3, -⟩ := h
  refine ⟨⟨zBm_34 hB (t2 5 (by decide) (by decide)) (t2 7 (by decide) (by decide)) (fun a h1 h2 => t3 a (by omega)), hw, by rw [t2 9 (by decide) (by decide)]; exact h9, fun hf => ?_⟩, by rw [t3 48 (by decide)]; exact g2, by rw [t3 48 (by decide)]; exact g3, (t1 rfl).1, (t1 rfl).2, by rw [t3 51 (by decide)]; exact g6, by rw [t3 52 (by decide)]; exact g7, by rw [t3 53 (by decide)]; exact g8, by rw [t3 54 (by decide)]; exact g9⟩
  rw [t2 9 (by decide) (by decide)] at hf
  have hc := hC hf
  unfold zMC zDm at hc ⊢
  rw [t3 41 (by decide), t3 42 (by decide), t3 43 (by decide), t3 44 (by decide), t3 45 (by decide), t3 46 (by decide), t3 47 (by decide), t2 17 (by decide) (by decide)]
  exact hc
theorem sp_lookT (hA : zMS M A) (h9 : M 34 9 = 1) : zf (zSh L) 2 kX8_look [zvr 34, zvi 1] M (fun v M1 => v = some (.inl (zver A.1 A.2.1).1) ∧ zMS M1 (zs_check A).2 ∧ zFM M M1) := by
  have h := sp_M_look (L := L) (kp := true) hA.1.1 hA.1.2.1 (hA.1.2.2.2 h9).1 hA.2.2.1
  rw [zb_t rfl] at h
  refine zf_post h (fun v M1 h => ?_)
  obtain ⟨r, a, b, h1, h2, h3⟩ := h
  have hv := zver_eq (zVd_congr (fun i hi => hA.2.1 i hi) h2)
  unfold zs_check
  rw [hv]
  exact ⟨h1, zMS_tl hA h3, fun c hc => h3.2.2.1 c (by omega)⟩
theorem sp_lookF (hA : zMS M A) (h9 : M 34 9 = 1) : zf (zSh L) 2 kX8_look [zvr 34, zvi 0] M (fun v M1 => v = some (.inl (zver A.1 A.2.1).1) ∧ M1 = M ∧ 0 ≤ (zver A.1 A.2.1).1 ∧ (zver A.1 A.2.1).1 ≤ 3 ∧ ((zver A.1 A.2.1).1 = 0 → ∀ i, i < pn A.1 → M 48 i ≠ -3)) := by
  have h := sp_M_look (L := L) (kp := false) hA.1.1 hA.1.2.1 (hA.1.2.2.2 h9).1 hA.2.2.1
  rw [zb_f rfl] at h
  refine zf_post h (fun v M1 h => ?_)
  obtain ⟨r, a, b, h1, h2, h3⟩ := h
  have hv := zver_eq (zVd_congr (fun i hi => hA.2.1 i hi) h2)
  rw [hv]
  refine ⟨h1, h3.2.2.2 rfl, ?_, ?_, fun h => ?_⟩
  · show 0 ≤ r
    rcases h2 with ⟨r1, -⟩ | ⟨r1, -⟩ | ⟨r1, -⟩ | ⟨r1, -⟩ <;> omega
  · show r ≤ 3
    rcases h2 with ⟨r1, -⟩ | ⟨r1, -⟩ | ⟨r1, -⟩ | ⟨r1, -⟩ <;> omega
  · have h : r = 0 := h
    rcases h2 with ⟨r1, -⟩ | ⟨r1, r2, -⟩ | ⟨r1, r2, -⟩ | ⟨r1, r2, -⟩
    · omega
    · exact r2
    · exact r2
    · exact r2
theorem sp_M_check (hA : zMS M A) : zf (zSh L) 7 kX8_check [zvr 34] M (fun v M1 => v = some (.inl (zs_check A).1) ∧ zMS M1 (zs_check A).2 ∧ zFM M M1) := by
  refine zf_of rfl (Nat.le_of_ble_eq_true rfl) ?_
  repeat refine zr_s rfl rfl rfl ?_
  refine zr_c rfl rfl rfl (zf_mono (Nat.le_of_ble_eq_true rfl) (sp_workS hA)) (fun v M1 hv => ?_)
  obtain ⟨rfl, h9, hA1, hF⟩ := hv
  repeat refine zr_s rfl rfl rfl ?_
  refine zr_c rfl rfl rfl (zf_mono (Nat.le_of_ble_eq_true rfl) (sp_lookT hA1 h9)) (fun v M2 hv => ?_)
  obtain ⟨rfl, hA2, hF2⟩ := hv
  exact zr_ret rfl (⟨rfl, hA2, zFM_tr hF hF2⟩)
theorem sp_M_wrong {p : Int} (hA : zMS M A) (hp : zI p) : zf (zSh L) 1 kX8_wrong [zvr 34, zvi p] M (fun v M1 => v = some (.inl (zs_wrong A p)) ∧ zMS M1 A ∧ zFM M M1) := by
  obtain ⟨hI, g2, g3, g4, g5, g6, g7, g8, g9⟩ := id hA
  unfold zs_wrong
  refine zf_of rfl (Nat.le_of_ble_eq_true rfl) ?_
  repeat refine zr_s rfl rfl rfl ?_
  refine zr_zne rfl hp (fun h => ?_) (fun h => ?_)
  · rw [if_neg h]
    repeat refine zr_s rfl rfl rfl ?_
    refine zr_ine rfl hp (by decide) (fun h2 => ?_) (fun h2 => ?_)
    · rw [if_neg h2]
      repeat refine zr_s rfl rfl rfl ?_
      exact zr_ret rfl (⟨rfl, hA, zFM_rf⟩)
    · rw [if_pos h2]
      repeat refine zr_s rfl rfl rfl ?_
      rw [g5]
      exact zr_ret rfl (⟨rfl, hA, zFM_rf⟩)
  · rw [if_pos h]
    repeat refine zr_s rfl rfl rfl ?_
    rw [g4]
    exact zr_ret rfl (⟨rfl, hA, zFM_rf⟩)
theorem zMI_eq {M1 : zM} (e : ∀ q, 34 ≤ q → q ≤ 47 → M1 q = M q) (h : zMI M P) : zMI M1 P := by
  unfold zMI zBm zMC zDm at h ⊢
  rw [e 34 (by omega) (by omega), e 35 (by omega) (by omega), e 36 (by omega) (by omega), e 37 (by omega) (by omega), e 38 (by omega) (by omega), e 39 (by omega) (by omega), e 40 (by omega) (by omega), e 41 (by omega) (by omega), e 42 (by omega) (by omega), e 43 (by omega) (by omega), e 44 (by omega) (by omega), e 45 (by omega) (by omega), e 46 (by omega) (by omega), e 47 (by omega) (by omega)]
  exact h
theorem sp_M_place {i c : Int} (hA : zMS M A) (hi : zI i) (hc : zI c) : zf (zSh L) 2 kX8_place [zvr 34, zvi i, zvi c] M (fun v M1 => v = some (.inl (zs_place A i c).1) ∧ zMS M1 (zs_place A i c).2 ∧ zFM M M1) := by
  obtain ⟨hI, g2, g3, g4, g5, g6, g7, g8, g9⟩ := id hA
  have hB := hI.1
  have hw := hI.2.1
  have h60 := hw.1
  have bad : ¬ (zin' A.1 i ∧ 0 ≤ c ∧ c ≤ 1000) → zr (zSh L) 1 tX8_place 19 [some (zvr 34), some (zvi i), some (zvi c), none] [] M (fun v M1 => v = some (.inl (zs_place A i c).1) ∧ zMS M1 (zs_place A i c).2 ∧ zFM M M1) := fun h => by
    repeat refine zr_s rfl rfl rfl ?_
    refine zr_ret rfl ?_
    unfold zs_place
    rw [if_neg h]
    exact ⟨rfl, hA, zFM_rf⟩
  refine zf_of rfl (Nat.le_of_ble_eq_true rfl) ?_
  repeat refine zr_s rfl rfl rfl ?_
  refine zr_cr rfl rfl rfl (zf_mono (Nat.le_of_ble_eq_true rfl) (sp_M_isThere hB hw hi)) ?_
  by_cases h1 : 0 ≤ i ∧ i < pn A.1
  rotate_left
  · rw [zb_f (by simpa using h1)]
    exact zr_zeq rfl (by decide) (fun _ => bad (fun z => h1 z.1)) (fun h => absurd rfl h)
  rw [zb_t (by simpa using h1)]
  refine zr_zeq rfl (by decide) (fun h => by cases h) (fun _ => ?_)
  repeat refine zr_s rfl rfl rfl ?_
  refine zr_zlt rfl hc (fun h => bad (fun z => by have := z.2.1; omega)) (fun h2 => ?_)
  repeat refine zr_s rfl rfl rfl ?_
  refine zr_ile rfl hc (by decide) (fun h3 => ?_) (fun h => bad (fun z => by have := z.2.2; omega))
  unfold zs_place
  rw [if_pos (show zin' A.1 i ∧ 0 ≤ c ∧ c ≤ 1000 from ⟨h1, h2, h3⟩)]
  obtain ⟨a, rfl⟩ := Int.eq_ofNat_of_zero_le h1.1
  rw [Int.toNat_natCast]
  have ha : a < pn A.1 := by omega
  repeat refine zr_s rfl rfl rfl ?_
  refine zr_ald (a) rfl rfl rfl (by omega) (by decide) ?_
  repeat refine zr_s rfl rfl rfl ?_
  refine zr_ast (a) rfl rfl rfl (by omega) (by decide) ?_
  repeat refine zr_s rfl rfl rfl ?_
  rw [g2 a ha]
  have row : ∀ q, q ≠ 48 → zup M 48 a c q = M q := fun q hq => zup_row hq
  have x48 : ∀ q, zup M 48 a c 48 q = if q = a then c else M 48 q := fun q => by
    by_cases h : q = a
    · rw [if_pos h, h, zup_at]
    · rw [if_neg h, zup_off h]
  refine zr_ret rfl ⟨rfl, ⟨zMI_eq (fun q q1 q2 => row q (by omega)) hI, fun q hq => ?_, fun q hq => ?_, by rw [row 34 (by decide)]; exact g4, by rw [row 34 (by decide)]; exact g5, by rw [row 51 (by decide)]; exact g6, by rw [row 52 (by decide)]; exact g7, by rw [row 53 (by decide)]; exact g8, by rw [row 54 (by decide)]; exact g9⟩, fun q hq => row q (by omega)⟩
  · rw [x48]
    show _ = zfu A.2.1 a c q
    unfold zfu
    rw [g2 q hq]
  · rw [x48]
    split
    · omega
    · exact g3 q hq
theorem sp_M_given {w k x : Int} (hA : zMS M A) (hwI : zI w) (hk : zI k) : zf (zSh L) 1 kX8_given [zvr 34, zvi w, zvi k, zvi x] M (fun v M1 => v = some (.inl (zs_given A w k x).1) ∧ zMS M1 (zs_given A w k x).2 ∧ zFM M M1) := by
  obtain ⟨hI, g2, g3, g4, g5, g6, g7, g8, g9⟩ := id hA
  have none' : ¬ (w = 0 ∧ 0 ≤ k ∧ k < 16) → ¬ (w = 1 ∧ 0 ≤ k ∧ k < 64) → zr (zSh L) 0 tX8_given 65 [some (zvr 34), some (zvi w), some (zvi k), some (zvi x), none] [] M (fun v M1 => v = some (.inl (zs_given A w k x).1) ∧ zMS M1 (zs_given A w k x).2 ∧ zFM M M1) := fun h1 h2 => by
    repeat refine zr_s rfl rfl rfl ?_
    refine zr_ret rfl ?_
    unfold zs_given
    rw [if_neg h1, if_neg h2]
    exact ⟨rfl, hA, zFM_rf⟩
  have mem : ¬ (w = 0 ∧ 0 ≤ k ∧ k < 16) → zr (zSh L) 0 tX8_given 32 [some (zvr 34), some (zvi w), some (zvi k), some (zvi x), none] [] M (fun v M1 => v = some (.inl (zs_given A w k x).1) ∧ zMS M1 (zs_given A w k x).2 ∧ zFM M M1) := fun h1 => by
    repeat refine zr_s rfl rfl rfl ?_
    refine zr_ine rfl hwI (by decide) (fun h => none' h1 (by omega)) (fun h => ?_)
    repeat refine zr_s rfl rfl rfl ?_
    refine zr_zlt rfl hk (fun h2 => none' h1 (by omega)) (fun h2 => ?_)
    repeat refine zr_s rfl rfl rfl ?_
    refine zr_ige rfl hk (by decide) (fun h3 => none' h1 (by omega)) (fun h3 => ?_)
    unfold zs_given
    rw [if_neg h1, if_pos ⟨h, h2, h3⟩]
    obtain ⟨a, rfl⟩ := Int.eq_ofNat_of_zero_le h2
    rw [Int.toNat_natCast]
    repeat refine zr_s rfl rfl rfl ?_
    refine zr_ald (a) rfl rfl rfl (by omega) (by decide) ?_
    repeat refine zr_s rfl rfl rfl ?_
    refine zr_ast (a) rfl rfl rfl (by omega) (by decide) ?_
    repeat refine zr_s rfl rfl rfl ?_
    rw [g7 a (by omega)]
    have row : ∀ q, q ≠ 52 → zup M 52 a x q = M q := fun q hq => zup_row hq
    refine zr_ret rfl ⟨rfl, ⟨zMI_eq (fun q q1 q2 => row q (by omega)) hI, by rw [row 48 (by decide)]; exact g2, by rw [row 48 (by decide)]; exact g3, by rw [row 34 (by decide)]; exact g4, by rw [row 34 (by decide)]; exact g5, by rw [row 51 (by decide)]; exact g6, fun q hq => ?_, by rw [row 53 (by decide)]; exact g8, by rw [row 54 (by decide)]; exact g9⟩, fun q hq => row q (by omega)⟩
    show _ = zfu A.2.2.2.1.2 a x q
    by_cases h : q = a
    · rw [h, zup_at, zfu_at]
    · rw [zup_off h, zfu_off h]
      exact g7 q hq
  refine zf_of rfl (Nat.le_of_ble_eq_true rfl) ?_
  repeat refine zr_s rfl rfl rfl ?_
  refine zr_zne rfl hwI (fun h => mem (by omega)) (fun h => ?_)
  repeat refine zr_s rfl rfl rfl ?_
  refine zr_zlt rfl hk (fun h2 => mem (by omega)) (fun h2 => ?_)
  repeat refine zr_s rfl rfl rfl ?_
  refine zr_ige rfl hk (by decide) (fun h3 => mem (by omega)) (fun h3 => ?_)
  unfold zs_given
  rw [if_pos ⟨h, h2, h3⟩]
  obtain ⟨a, rfl⟩ := Int.eq_ofNat_of_zero_le h2
  rw [Int.toNat_natCast]
  repeat refine zr_s rfl rfl rfl ?_
  refine zr_ald (a) rfl rfl rfl (by omega) (by decide) ?_
  repeat refine zr_s rfl rfl rfl ?_
  refine zr_ast (a) rfl rfl rfl (by omega) (by decide) ?_
  repeat refine zr_s rfl rfl rfl ?_
  rw [g6 a (by omega)]
  have row : ∀ q, q ≠ 51 → zup M 51 a x q = M q := fun q hq => zup_row hq
  refine zr_ret rfl ⟨rfl, ⟨zMI_eq (fun q q1 q2 => row q (by omega)) hI, by rw [row 48 (by decide)]; exact g2, by rw [row 48 (by decide)]; exact g3, by rw [row 34 (by decide)]; exact g4, by rw [row 34 (by decide)]; exact g5, fun q hq => ?_, by rw [row 52 (by decide)]; exact g7, by rw [row 53 (by decide)]; exact g8, by rw [row 54 (by decide)]; exact g9⟩, fun q hq => row q (by omega)⟩
  show _ = zfu A.2.2.2.1.1 a x q
  by_cases h : q = a
  · rw [h, zup_at, zfu_at]
  · rw [zup_off h, zfu_off h]
    exact g6 q hq
theorem sp_M_value {w k : Int} (hA : zMS M A) (hwI : zI w) (hk : zI k) : zf (zSh L) 1 kX8_value [zvr 34, zvi w, zvi k] M (fun v M1 => v = some (.inl (zs_value A w k)) ∧ zMS M1 A ∧ zFM M M1) := by
  obtain ⟨hI, g2, g3, g4, g5, g6, g7, g8, g9⟩ := id hA
  unfold zs_value
  have none' : ¬ (w = 0 ∧ 0 ≤ k ∧ k < 16) → ¬ (w = 1 ∧ 0 ≤ k ∧ k < 64) → zr (zSh L) 0 tX8_value 45 [some (zvr 34), some (zvi w), some (zvi k)] [] M (fun v M1 => v = some (.inl (if w = 0 ∧ 0 ≤ k ∧ k < 16 then A.2.2.2.2.1 k.toNat else if w = 1 ∧ 0 ≤ k ∧ k < 64 then A.2.2.2.2.2 k.toNat else 0)) ∧ zMS M1 A ∧ zFM M M1) := fun h1 h2 => by
    rw [if_neg h1, if_neg h2]
    repeat refine zr_s rfl rfl rfl ?_
    exact zr_ret rfl (⟨rfl, hA, zFM_rf⟩)
  have mem : ¬ (w = 0 ∧ 0 ≤ k ∧ k < 16) → zr (zSh L) 0 tX8_value 21 [some (zvr 34), some (zvi w), some (zvi k)] [] M (fun v M1 => v = some (.inl (if w = 0 ∧ 0 ≤ k ∧ k < 16 then A.2.2.2.2.1 k.toNat else if w = 1 ∧ 0 ≤ k ∧ k < 64 then A.2.2.2.2.2 k.toNat else 0)) ∧ zMS M1 A ∧ zFM M M1) := fun h1 => by
    repeat refine zr_s rfl rfl rfl ?_
    refine zr_ine rfl hwI (by decide) (fun h => none' h1 (by omega)) (fun h => ?_)
    repeat refine zr_s rfl rfl rfl ?_
    refine zr_zlt rfl hk (fun h2 => none' h1 (by omega)) (fun h2 => ?_)
    repeat refine zr_s rfl rfl rfl ?_
    refine zr_ige rfl hk (by decide) (fun h3 => none' h1 (by omega)) (fun h3 => ?_)
    rw [if_neg h1, if_pos ⟨h, h2, h3⟩]
    obtain ⟨a, rfl⟩ := Int.eq_ofNat_of_zero_le h2
    rw [Int.toNat_natCast]
    repeat refine zr_s rfl rfl rfl ?_
    refine zr_ald (a) rfl rfl rfl (by omega) (by decide) ?_
    repeat refine zr_s rfl rfl rfl ?_
    rw [g9 a (by omega)]
    exact zr_ret rfl (⟨rfl, hA, zFM_rf⟩)
  refine zf_of rfl (Nat.le_of_ble_eq_true rfl) ?_
  repeat refine zr_s rfl rfl rfl ?_
  refine zr_zne rfl hwI (fun h => mem (by omega)) (fun h => ?_)
  repeat refine zr_s rfl rfl rfl ?_
  refine zr_zlt rfl hk (fun h2 => mem (by omega)) (fun h2 => ?_)
  repeat refine zr_s rfl rfl rfl ?_
  refine zr_ige rfl hk (by decide) (fun h3 => mem (by omega)) (fun h3 => ?_)
  rw [if_pos ⟨h, h2, h3⟩]
  obtain ⟨a, rfl⟩ := Int.eq_ofNat_of_zero_le h2
  rw [Int.toNat_natCast]
  repeat refine zr_s rfl rfl rfl ?_
  refine zr_ald (a) rfl rfl rfl (by omega) (by decide) ?_
  rw [g8 a (by omega)]
  exact zr_ret rfl (⟨rfl, hA, zFM_rf⟩)
theorem zio_I {P : zP} (hw : zWf P) {ord : Nat → Nat} (ho : ∀ k, k < pn P → ord k < pn P) {i : Nat} (hi : i < pn P) : -3 ≤ (zio P ord (pn P)).1 i ∧ (zio P ord (pn P)).1 i ≤ 1000 := by
  have h60 := hw.1
  obtain ⟨z1, z2, z3, z4, z5⟩ := zio_ok hw ho (pn P) (Nat.le_refl _)
  have := z5 i hi
  omega
theorem sp_M_length {w : Int} (hA : zMS M A) (hwI : zI w) : zf (zSh L) 7 kX8_length [zvr 34, zvi w] M (fun v M1 => v = some (.inl (zs_length A w)) ∧ zMS M1 A ∧ zFM M M1) := by
  have hw := hA.1.2.1
  have h60 := hw.1
  refine zf_of rfl (Nat.le_of_ble_eq_true rfl) ?_
  repeat refine zr_s rfl rfl rfl ?_
  refine zr_c rfl rfl rfl (zf_mono (Nat.le_of_ble_eq_true rfl) (sp_workS hA)) (fun v M1 hv => ?_)
  obtain ⟨rfl, h9, hA1, hF⟩ := hv
  have hB := hA1.1.1
  obtain ⟨k1, k2, k3, k4, k5, k6, k7, k8, k9⟩ := hA1.1.2.2.2 h9
  unfold zs_length
  repeat refine zr_s rfl rfl rfl ?_
  by_cases hr : 0 ≤ w ∧ w ≤ 7
  rotate_left
  · refine zr_tabOut rfl hwI (by omega) ?_
    repeat refine zr_s rfl rfl rfl ?_
    refine zr_ret rfl ?_
    rw [if_neg (by omega), if_neg (by omega), if_neg (by omega), if_neg (by omega), if_neg (by omega), if_neg (by omega), if_neg (by omega), if_neg (by omega)]
    exact ⟨rfl, hA1, hF⟩
  have hc : w = 0 ∨ w = 1 ∨ w = 2 ∨ w = 3 ∨ w = 4 ∨ w = 5 ∨ w = 6 ∨ w = 7 := by omega
  rcases hc with rfl | rfl | rfl | rfl | rfl | rfl | rfl | rfl
  · refine zr_tabIn 47 rfl hwI (by decide) (by decide) rfl ?_
    repeat refine zr_s rfl rfl rfl ?_
    refine zr_cr rfl rfl rfl (zf_mono (Nat.le_of_ble_eq_true rfl) (sp_M_greatestWay hB hw k2 (fun i hi => zway_I hw k9 hi))) ?_
    exact zr_ret rfl (⟨rfl, hA1, hF⟩)
  · refine zr_tabIn 52 rfl hwI (by decide) (by decide) rfl ?_
    repeat refine zr_s rfl rfl rfl ?_
    refine zr_cr rfl rfl rfl (zf_mono (Nat.le_of_ble_eq_true rfl) (sp_M_lengthOf (c := 44) hB hw rfl (fun i hi => by rw [k4 i hi]; have := zcycI hw (zway A.1) i hi; omega))) ?_
    rw [zlen_congr _ k4]
    exact zr_ret rfl (⟨rfl, hA1, hF⟩)
  · refine zr_tabIn 61 rfl hwI (by decide) (by decide) rfl ?_
    repeat refine zr_s rfl rfl rfl ?_
    refine zr_cr rfl rfl rfl (zf_mono (Nat.le_of_ble_eq_true rfl) (sp_M_lengthOf (c := 46) hB hw rfl (fun i hi => by rw [k6 i hi]; have := zio_I hw (ord := fun k => k) (fun k hk => hk) hi; omega))) ?_
    rw [zlen_congr _ k6]
    exact zr_ret rfl (⟨rfl, hA1, hF⟩)
  · refine zr_tabIn 70 rfl hwI (by decide) (by decide) rfl ?_
    repeat refine zr_s rfl rfl rfl ?_
    refine zr_cr rfl rfl rfl (zf_mono (Nat.le_of_ble_eq_true rfl) (sp_M_lengthOf (c := 47) hB hw rfl (fun i hi => by rw [k7 i hi]; have := zio_I hw (ord := zod A.1 (zway A.1)) (fun k hk => ((zod_P hw (zway A.1)).1 k hk).2) hi; omega))) ?_
    rw [zlen_congr _ k7]
    exact zr_ret rfl (⟨rfl, hA1, hF⟩)
  · refine zr_tabIn 79 rfl hwI (by decide) (by decide) rfl ?_
    repeat refine zr_s rfl rfl rfl ?_
    rw [k8]
    exact zr_ret rfl (⟨rfl, hA1, hF⟩)
  · refine zr_tabIn 84 rfl hwI (by decide) (by decide) rfl ?_
    repeat refine zr_s rfl rfl rfl ?_
    refine zr_c rfl rfl rfl (zf_mono (Nat.le_of_ble_eq_true rfl) (sp_lookF hA1 h9)) (fun v M2 hv => ?_)
    obtain ⟨rfl, e2, q1, q2, -⟩ := hv
    have e2 := e2.symm
    subst e2
    refine zr_zle rfl (by omega) (fun h => ?_) (fun h => ?_)
    · repeat refine zr_s rfl rfl rfl ?_
      refine zr_cr rfl rfl rfl (zf_mono (Nat.le_of_ble_eq_true rfl) (sp_M_lengthOf (c := 48) hB hw rfl (fun i hi => by have := hA1.2.2.1 i hi; omega))) ?_
      refine zr_ret rfl ?_
      show (some (Sum.inl _) : Option zV) = some (Sum.inl (if (zver A.1 A.2.1).1 = 0 then zlen A.1 A.2.1 (pn A.1) else (-3 : Int))) ∧ _
      rw [if_pos (by omega), zlen_congr _ hA1.2.1]
      exact ⟨rfl, hA1, hF⟩
    · repeat refine zr_s rfl rfl rfl ?_
      refine zr_ret rfl ?_
      show (some (Sum.inl (-3)) : Option zV) = some (Sum.inl (if (zver A.1 A.2.1).1 = 0 then _ else (-3 : Int))) ∧ _
      rw [if_neg (by omega)]
      exact ⟨rfl, hA1, hF⟩
  · refine zr_tabIn 106 rfl hwI (by decide) (by decide) rfl ?_
    repeat refine zr_s rfl rfl rfl ?_
    rw [hB.1]
    exact zr_ret rfl (⟨rfl, hA1, hF⟩)
  · refine zr_tabIn 111 rfl hwI (by decide) (by decide) rfl ?_
    repeat refine zr_s rfl rfl rfl ?_
    refine zr_cr rfl rfl rfl (zf_mono (Nat.le_of_ble_eq_true rfl) (sp_M_dependences hB hw k1)) ?_
    exact zr_ret rfl (⟨rfl, hA1, hF⟩)
end ZX
