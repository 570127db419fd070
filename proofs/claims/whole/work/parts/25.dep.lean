/-! DEPENDENCES: rows of delays, one delay -/
/-- where the row of j begins -/
def ztr : Nat → Nat
  | 0 => 0
  | j + 1 => ztr j + j
theorem ztr_eq (j : Nat) : (j : Int) * ((j : Int) - 1) = 2 * (ztr j : Int) := by
  induction j with
  | zero => rfl
  | succ j ih =>
    show ((j + 1 : Nat) : Int) * (((j + 1 : Nat) : Int) - 1) = 2 * ((ztr j + j : Nat) : Int)
    push_cast
    rw [show ((j : Int) + 1) * ((j : Int) + 1 - 1) = (j : Int) * ((j : Int) - 1) + 2 * (j : Int) by
      rw [show (j : Int) + 1 - 1 = j by omega, Int.add_mul, Int.mul_sub]
      omega, ih]
    omega
theorem ztr_mono {i j : Nat} (h : i ≤ j) : ztr i ≤ ztr j := by
  induction j with
  | zero => rw [show i = 0 by omega]; exact Nat.le_refl _
  | succ j ih =>
    by_cases h1 : i = j + 1
    · rw [h1]; exact Nat.le_refl _
    · exact Nat.le_trans (ih (by omega)) (Nat.le_add_right _ _)
theorem ztr_lt {j : Nat} (h : j < 60) : ztr j + j ≤ 1770 := by
  have h1 := ztr_mono (i := j + 1) (j := 60) (by omega)
  have h2 : ztr 60 = 1770 := by decide
  have h3 : ztr (j + 1) = ztr j + j := rfl
  omega
theorem ztr_inj {i j a b : Nat} (hi : a < i) (hj : b < j) (h : ztr i + a = ztr j + b) : i = j ∧ a = b := by
  rcases Nat.lt_trichotomy i j with h1 | h1 | h1
  · have h2 := ztr_mono (i := i + 1) (j := j) (by omega)
    have h3 : ztr (i + 1) = ztr i + i := rfl
    omega
  · subst h1
    omega
  · have h2 := ztr_mono (i := j + 1) (j := i) (by omega)
    have h3 : ztr (j + 1) = ztr j + j := rfl
    omega
theorem zdiv2 {x : Int} (h0 : 0 ≤ x) (h1 : x < 2147483648) : zdiv x 2 = x / 2 := by
  unfold zdiv
  rw [Int32.toInt_div_of_ne_right _ _ (by decide)]
  show (zw x).tdiv (zw 2) = _
  rw [zwid (by omega) h1, show zw 2 = 2 by decide, Int.tdiv_eq_ediv_of_nonneg h0]
/-- what a register asks of j behind i, 'o' the registers not written between -/
def zrg (P : zP) (i j : Nat) (o : Int32) : Int :=
  let d1 : Int := if zRm P j &&& zWm P i &&& o ≠ 0 then pl P i else -3
  let d2 : Int := if zWm P j &&& zRm P i &&& o ≠ 0 then max d1 0 else d1
  if zWm P j &&& zWm P i &&& o ≠ 0 then max d2 (max 1 ((pl P i : Int) - pl P j + 1)) else d2
def zap (P : zP) (i j : Nat) (ch : Int32) : Bool := decide (pA P i = pA P j) && decide (ch &&& zone (pA P i) = 0) && decide (pC P i % 64 ≠ pC P j % 64)
/-- what memory asks, 'wb' the registers written between -/
def zmm (P : zP) (i j : Nat) (wb : Int32) : Int :=
  if 5 ≤ pK P i ∧ 5 ≤ pK P j ∧ (pK P i = 6 ∨ pK P j = 6) ∧ zap P i j (wb ||| zWm P i) = false then (if pK P i = 6 then (if pK P j = 6 then 1 else pl P i) else 0) else -3
/-- the registers written by the m instructions before j -/
def zWb (P : zP) (j : Nat) : Nat → Int32
  | 0 => 0
  | m + 1 => zWb P j m ||| zWm P (j - 1 - m)
/-- the delay of j behind i as the class holds it -/
def zdc (P : zP) (i j : Nat) : Int := max (zrg P i j (zWb P j (j - 1 - i) ^^^ (-1))) (zmm P i j (zWb P j (j - 1 - i)))
theorem zrg_I {P : zP} (hw : zWf P) {i j : Nat} (hi : i < pn P) (hj : j < pn P) (o : Int32) : -3 ≤ zrg P i j o ∧ zrg P i j o ≤ 12 := by
  have h1 := zpl_le hw hi
  have h2 := zpl_le hw hj
  unfold zrg
  simp only
  split <;> split <;> split <;> omega
theorem zmm_I {P : zP} (hw : zWf P) {i j : Nat} (hi : i < pn P) (o : Int32) : -3 ≤ zmm P i j o ∧ zmm P i j o ≤ 12 := by
  have h1 := zpl_le hw hi
  unfold zmm
  split
  · split
    · split <;> omega
    · omega
  · omega
theorem zdc_I {P : zP} (hw : zWf P) {i j : Nat} (hi : i < pn P) (hj : j < pn P) : -3 ≤ zdc P i j ∧ zdc P i j ≤ 12 := by
  have h1 := zrg_I hw hi hj (zWb P j (j - 1 - i) ^^^ (-1))
  have h2 := zmm_I hw (j := j) hi (zWb P j (j - 1 - i))
  unfold zdc
  omega
section ZX
variable {L : Nat} {M : zM} {P : zP} {S : List zC}
theorem sp_rowOf {j : Nat} (hj : j < 60) : zf S 1 kX1_rowOf [zvi j] M (fun v M1 => v = some (.inl (ztr j)) ∧ M1 = M) := by
  refine zf_of rfl (Nat.le_of_ble_eq_true rfl) ?_
  repeat refine zr_s rfl rfl rfl ?_
  refine zr_ret rfl ⟨?_, rfl⟩
  have h1 := ztr_eq j
  have h2 := ztr_lt hj
  rw [h1, zdiv2 (by omega) (by omega)]
  congr 2
  omega
theorem sp_areApart {i j : Nat} {ch : Int32} (hB : zBk M P) (hw : zWf P) (hi : i < pn P) (hj : j < pn P) : zf (zSh L) 2 kX1_areApart [zvr 9, zvi i, zvi j, zvi ch.toInt] M (fun v M1 => v = some (.inl (zb (zap P i j ch))) ∧ M1 = M) := by
  have h60 := hw.1
  obtain ⟨-, -, hai, -, hci⟩ := hB.2.2.2 i hi
  obtain ⟨-, -, haj, -, hcj⟩ := hB.2.2.2 j hj
  obtain ⟨-, -, hai16, -, hcI⟩ := hw.2.2.2.2 i hi
  obtain ⟨-, -, haj16, -, hcJ⟩ := hw.2.2.2.2 j hj
  have hwi := zwid hcI.1 hcI.2
  have hwj := zwid hcJ.1 hcJ.2
  refine zf_of rfl (Nat.le_of_ble_eq_true rfl) ?_
  repeat refine zr_s rfl rfl rfl ?_
  refine zr_ald (i) rfl rfl rfl (by omega) (by decide) ?_
  rw [hai]
  repeat refine zr_s rfl rfl rfl ?_
  refine zr_ald (j) rfl rfl rfl (by omega) (by decide) ?_
  rw [haj]
  refine zr_ine rfl (by omega) (by omega) (fun h => ?_) (fun h => ?_)
  · repeat refine zr_s rfl rfl rfl ?_
    exact zr_retz rfl (by omega) (⟨by rw [zb_f (by simp [zap]; omega)], rfl⟩)
  · have h : pA P i = pA P j := by omega
    repeat refine zr_s rfl rfl rfl ?_
    have e1 : zand ch.toInt (zshl 1 (pA P i : Int)) = (ch &&& zone (pA P i)).toInt := zand_to ch (zone (pA P i))
    rw [e1]
    refine zr_zne rfl (zto_I _) (fun h2 => ?_) (fun h2 => ?_)
    · repeat refine zr_s rfl rfl rfl ?_
      have h3 : ¬ (ch &&& zone (pA P i) = 0) := fun z => h2 (by rw [z]; rfl)
      exact zr_retz rfl (by omega) (⟨by rw [zb_f (by simp [zap, h3])], rfl⟩)
    · have h3 : ch &&& zone (pA P i) = 0 := Int32.toInt_inj.mp h2
      repeat refine zr_s rfl rfl rfl ?_
      refine zr_ald (i) rfl rfl rfl (by omega) (by decide) ?_
      rw [hci]
      repeat refine zr_s rfl rfl rfl ?_
      refine zr_cr rfl rfl rfl (zf_mono (Nat.le_of_ble_eq_true rfl) (sp_floorMod)) ?_
      rw [hwi]
      repeat refine zr_s rfl rfl rfl ?_
      refine zr_ald (j) rfl rfl rfl (by omega) (by decide) ?_
      rw [hcj]
      repeat refine zr_s rfl rfl rfl ?_
      refine zr_cr rfl rfl rfl (zf_mono (Nat.le_of_ble_eq_true rfl) (sp_floorMod)) ?_
      rw [hwj]
      have m1 := Int.emod_nonneg (pC P i) (b := 64) (by decide)
      have m2 := Int.emod_lt_of_pos (pC P i) (b := 64) (by decide)
      have m3 := Int.emod_nonneg (pC P j) (b := 64) (by decide)
      have m4 := Int.emod_lt_of_pos (pC P j) (b := 64) (by decide)
      refine zr_ieq rfl (by omega) (by omega) (fun h4 => ?_) (fun h4 => ?_)
      · repeat refine zr_s rfl rfl rfl ?_
        exact zr_retz rfl (by omega) (⟨by rw [zb_f (by simp [zap, h4])], rfl⟩)
      · repeat refine zr_s rfl rfl rfl ?_
        exact zr_retz rfl (by omega) (⟨by rw [zb_t (by simp [zap, h, h3, h4]; rw [← h]; exact h3)], rfl⟩)
theorem sp_memoryDelay {i j : Nat} {wb : Int32} (hB : zBk M P) (hw : zWf P) (hi : i < pn P) (hj : j < pn P) : zf (zSh L) 3 kX1_memoryDelay [zvr 9, zvi i, zvi j, zvi wb.toInt] M (fun v M1 => v = some (.inl (zmm P i j wb)) ∧ M1 = M) := by
  have h60 := hw.1
  obtain ⟨hki, -⟩ := hB.2.2.2 i hi
  obtain ⟨hkj, -⟩ := hB.2.2.2 j hj
  obtain ⟨hki7, -⟩ := hw.2.2.2.2 i hi
  obtain ⟨hkj7, -⟩ := hw.2.2.2.2 j hj
  refine zf_of rfl (Nat.le_of_ble_eq_true rfl) ?_
  repeat refine zr_s rfl rfl rfl ?_
  refine zr_cr rfl rfl rfl (zf_mono (Nat.le_of_ble_eq_true rfl) (sp_usesMemory hB hw hi)) ?_
  by_cases h5i : 5 ≤ pK P i
  rotate_left
  · rw [zb_f (by simp; omega)]
    refine zr_zeq rfl (by decide) (fun h => ?_) (fun h => absurd rfl h)
    repeat refine zr_s rfl rfl rfl ?_
    exact zr_ret rfl (⟨by unfold zmm; rw [if_neg (by omega)], rfl⟩)
  rw [zb_t (by simp; omega)]
  refine zr_zeq rfl (by decide) (fun h => by cases h) (fun _ => ?_)
  repeat refine zr_s rfl rfl rfl ?_
  refine zr_cr rfl rfl rfl (zf_mono (Nat.le_of_ble_eq_true rfl) (sp_usesMemory hB hw hj)) ?_
  by_cases h5j : 5 ≤ pK P j
  rotate_left
  · rw [zb_f (by simp; omega)]
    refine zr_zne rfl (by decide) (fun h => absurd rfl h) (fun h => ?_)
    repeat refine zr_s rfl rfl rfl ?_
    exact zr_ret rfl (⟨by unfold zmm; rw [if_neg (by omega)], rfl⟩)
  rw [zb_t (by simp; omega)]
  refine zr_zne rfl (by decide) (fun h => ?_) (fun h => by cases h)
  repeat refine zr_s rfl rfl rfl ?_
  refine zr_ald (i) rfl rfl rfl (by omega) (by decide) ?_
  rw [hki]
  repeat refine zr_s rfl rfl rfl ?_
  by_cases h6i : pK P i = 6 <;> by_cases h6j : pK P j = 6
  · refine zr_ine rfl (by omega) (by omega) (fun h => by omega) (fun h => ?_)
    repeat refine zr_s rfl rfl rfl ?_
    refine zr_ald (j) rfl rfl rfl (by omega) (by decide) ?_
    rw [hkj]
    repeat refine zr_s rfl rfl rfl ?_
    refine zr_ine rfl (by omega) (by omega) (fun h => by omega) (fun h => ?_)
    repeat refine zr_s rfl rfl rfl ?_
    refine zr_zne rfl (by decide) (fun h => ?_) (fun h => by cases h)
    repeat refine zr_s rfl rfl rfl ?_
    refine zr_cr rfl rfl rfl (zf_mono (Nat.le_of_ble_eq_true rfl) (sp_written hB hw hi)) ?_
    repeat refine zr_s rfl rfl rfl ?_
    rw [zor_to]
    refine zr_cr rfl rfl rfl (zf_mono (Nat.le_of_ble_eq_true rfl) (sp_areApart hB hw hi hj)) ?_
    cases hz : zap P i j (wb ||| zWm P i) with
    | true =>
      refine zr_zeq rfl (by decide) (fun h => by cases h) (fun h => ?_)
      repeat refine zr_s rfl rfl rfl ?_
      exact zr_ret rfl (⟨by unfold zmm; rw [if_neg (by rw [hz]; simp)], rfl⟩)
    | false =>
      refine zr_zeq rfl (by decide) (fun h => ?_) (fun h => absurd rfl h)
      repeat refine zr_s rfl rfl rfl ?_
      refine zr_zeq rfl (by decide) (fun h => by cases h) (fun h => ?_)
      repeat refine zr_s rfl rfl rfl ?_
      refine zr_zeq rfl (by decide) (fun h => by cases h) (fun h => ?_)
      repeat refine zr_s rfl rfl rfl ?_
      exact zr_ret rfl (⟨by unfold zmm; rw [if_pos ⟨h5i, h5j, by omega, hz⟩, if_pos h6i, if_pos h6j], rfl⟩)
  · refine zr_ine rfl (by omega) (by omega) (fun h => by omega) (fun h => ?_)
    repeat refine zr_s rfl rfl rfl ?_
    refine zr_ald (j) rfl rfl rfl (by omega) (by decide) ?_
    rw [hkj]
    repeat refine zr_s rfl rfl rfl ?_
    refine zr_ine rfl (by omega) (by omega) (fun h => ?_) (fun h => by omega)
    repeat refine zr_s rfl rfl rfl ?_
    refine zr_zne rfl (by decide) (fun h => ?_) (fun h => by cases h)
    repeat refine zr_s rfl rfl rfl ?_
    refine zr_cr rfl rfl rfl (zf_mono (Nat.le_of_ble_eq_true rfl) (sp_written hB hw hi)) ?_
    repeat refine zr_s rfl rfl rfl ?_
    rw [zor_to]
    refine zr_cr rfl rfl rfl (zf_mono (Nat.le_of_ble_eq_true rfl) (sp_areApart hB hw hi hj)) ?_
    cases hz : zap P i j (wb ||| zWm P i) with
    | true =>
      refine zr_zeq rfl (by decide) (fun h => by cases h) (fun h => ?_)
      repeat refine zr_s rfl rfl rfl ?_
      exact zr_ret rfl (⟨by unfold zmm; rw [if_neg (by rw [hz]; simp)], rfl⟩)
    | false =>
      refine zr_zeq rfl (by decide) (fun h => ?_) (fun h => absurd rfl h)
      repeat refine zr_s rfl rfl rfl ?_
      refine zr_zeq rfl (by decide) (fun h => by cases h) (fun h => ?_)
      repeat refine zr_s rfl rfl rfl ?_
      refine zr_zeq rfl (by decide) (fun h => ?_) (fun h => absurd rfl h)
      repeat refine zr_s rfl rfl rfl ?_
      refine zr_zeq rfl (by decide) (fun h => by cases h) (fun h => ?_)
      repeat refine zr_s rfl rfl rfl ?_
      refine zr_cr rfl rfl rfl (zf_mono (Nat.le_of_ble_eq_true rfl) (sp_latencyOf hB hw hi)) ?_
      repeat refine zr_s rfl rfl rfl ?_
      exact zr_ret rfl (⟨by unfold zmm; rw [if_pos ⟨h5i, h5j, by omega, hz⟩, if_pos h6i, if_neg h6j], rfl⟩)
  · refine zr_ine rfl (by omega) (by omega) (fun h => ?_) (fun h => by omega)
    repeat refine zr_s rfl rfl rfl ?_
    refine zr_ald (j) rfl rfl rfl (by omega) (by decide) ?_
    rw [hkj]
    repeat refine zr_s rfl rfl rfl ?_
    refine zr_ine rfl (by omega) (by omega) (fun h => by omega) (fun h => ?_)
    repeat refine zr_s rfl rfl rfl ?_
    refine zr_zne rfl (by decide) (fun h => absurd rfl h) (fun h => ?_)
    repeat refine zr_s rfl rfl rfl ?_
    refine zr_zne rfl (by decide) (fun h => ?_) (fun h => by cases h)
    repeat refine zr_s rfl rfl rfl ?_
    refine zr_cr rfl rfl rfl (zf_mono (Nat.le_of_ble_eq_true rfl) (sp_written hB hw hi)) ?_
    repeat refine zr_s rfl rfl rfl ?_
    rw [zor_to]
    refine zr_cr rfl rfl rfl (zf_mono (Nat.le_of_ble_eq_true rfl) (sp_areApart hB hw hi hj)) ?_
    cases hz : zap P i j (wb ||| zWm P i) with
    | true =>
      refine zr_zeq rfl (by decide) (fun h => by cases h) (fun h => ?_)
      repeat refine zr_s rfl rfl rfl ?_
      exact zr_ret rfl (⟨by unfold zmm; rw [if_neg (by rw [hz]; simp)], rfl⟩)
    | false =>
      refine zr_zeq rfl (by decide) (fun h => ?_) (fun h => absurd rfl h)
      repeat refine zr_s rfl rfl rfl ?_
      refine zr_zeq rfl (by decide) (fun h => ?_) (fun h => absurd rfl h)
      repeat refine zr_s rfl rfl rfl ?_
      refine zr_zeq rfl (by decide) (fun h => ?_) (fun h => absurd rfl h)
      repeat refine zr_s rfl rfl rfl ?_
      exact zr_ret rfl (⟨by unfold zmm; rw [if_pos ⟨h5i, h5j, by omega, hz⟩, if_neg h6i], rfl⟩)
  · refine zr_ine rfl (by omega) (by omega) (fun h => ?_) (fun h => by omega)
    repeat refine zr_s rfl rfl rfl ?_
    refine zr_ald (j) rfl rfl rfl (by omega) (by decide) ?_
    rw [hkj]
    repeat refine zr_s rfl rfl rfl ?_
    refine zr_ine rfl (by omega) (by omega) (fun h => ?_) (fun h => by omega)
    repeat refine zr_s rfl rfl rfl ?_
    refine zr_zne rfl (by decide) (fun h => absurd rfl h) (fun h => ?_)
    repeat refine zr_s rfl rfl rfl ?_
    refine zr_zne rfl (by decide) (fun h => absurd rfl h) (fun h => ?_)
    repeat refine zr_s rfl rfl rfl ?_
    exact zr_ret rfl (⟨by unfold zmm; rw [if_neg (by omega)], rfl⟩)
theorem zone_ne {a b o : Int32} : zand (zand a.toInt b.toInt) o.toInt = (a &&& b &&& o).toInt := by rw [zand_to, zand_to]
theorem sp_registerDelay {i j : Nat} {o : Int32} (hB : zBk M P) (hw : zWf P) (hi : i < pn P) (hj : j < pn P) : zf (zSh L) 3 kX1_registerDelay [zvr 9, zvi i, zvi j, zvi o.toInt] M (fun v M1 => v = some (.inl (zrg P i j o)) ∧ M1 = M) := by
  have h60 := hw.1
  have hli := zpl_le hw hi
  have hlj := zpl_le hw hj
  have tz : ∀ z : Int32, z.toInt = 0 ↔ z = 0 := fun z => ⟨fun h => Int32.toInt_inj.mp h, fun h => by rw [h]; rfl⟩
  refine zf_of rfl (Nat.le_of_ble_eq_true rfl) ?_
  repeat refine zr_s rfl rfl rfl ?_
  refine zr_cr rfl rfl rfl (zf_mono (Nat.le_of_ble_eq_true rfl) (sp_read hB hw hj)) ?_
  repeat refine zr_s rfl rfl rfl ?_
  refine zr_cr rfl rfl rfl (zf_mono (Nat.le_of_ble_eq_true rfl) (sp_written hB hw hi)) ?_
  repeat refine zr_s rfl rfl rfl ?_
  rw [zone_ne]
  have r3 : ∀ d2 : Int, -3 ≤ d2 → d2 ≤ 12 → (d2 = if zWm P j &&& zRm P i &&& o ≠ 0 then max (if zRm P j &&& zWm P i &&& o ≠ 0 then (pl P i : Int) else -3) 0 else (if zRm P j &&& zWm P i &&& o ≠ 0 then (pl P i : Int) else -3)) → zr (zSh L) 2 tX1_registerDelay 66 [some (zvr 9), some (zvi i), some (zvi j), some (zvi o.toInt), some (zvi d2), none] [] M (fun v M1 => v = some (.inl (zrg P i j o)) ∧ M1 = M) := by
    intro d2 hd1 hd2 he
    repeat refine zr_s rfl rfl rfl ?_
    refine zr_cr rfl rfl rfl (zf_mono (Nat.le_of_ble_eq_true rfl) (sp_written hB hw hj)) ?_
    repeat refine zr_s rfl rfl rfl ?_
    refine zr_cr rfl rfl rfl (zf_mono (Nat.le_of_ble_eq_true rfl) (sp_written hB hw hi)) ?_
    repeat refine zr_s rfl rfl rfl ?_
    rw [zone_ne]
    refine zr_zeq rfl (zto_I _) (fun h => ?_) (fun h => ?_)
    · rw [tz] at h
      repeat refine zr_s rfl rfl rfl ?_
      refine zr_ret rfl ⟨?_, rfl⟩
      unfold zrg
      simp only [← he, h, ne_eq, not_true, if_false]
    · rw [tz] at h
      repeat refine zr_s rfl rfl rfl ?_
      refine zr_cr rfl rfl rfl (zf_mono (Nat.le_of_ble_eq_true rfl) (sp_latencyOf hB hw hi)) ?_
      repeat refine zr_s rfl rfl rfl ?_
      refine zr_cr rfl rfl rfl (zf_mono (Nat.le_of_ble_eq_true rfl) (sp_latencyOf hB hw hj)) ?_
      repeat refine zr_s rfl rfl rfl ?_
      refine zr_cr rfl rfl rfl (zf_mono (Nat.le_of_ble_eq_true rfl) (sp_max (by omega) (by omega))) ?_
      refine zr_cr rfl rfl rfl (zf_mono (Nat.le_of_ble_eq_true rfl) (sp_max (by omega) (by omega))) ?_
      repeat refine zr_s rfl rfl rfl ?_
      refine zr_ret rfl ⟨?_, rfl⟩
      unfold zrg
      simp only [← he, ne_eq, h, not_false_eq_true, if_true]
  have r2 : ∀ d1 : Int, -3 ≤ d1 → d1 ≤ 12 → (d1 = if zRm P j &&& zWm P i &&& o ≠ 0 then (pl P i : Int) else -3) → zr (zSh L) 2 tX1_registerDelay 36 [some (zvr 9), some (zvi i), some (zvi j), some (zvi o.toInt), some (zvi d1), none] [] M (fun v M1 => v = some (.inl (zrg P i j o)) ∧ M1 = M) := by
    intro d1 hd1 hd2 he
    repeat refine zr_s rfl rfl rfl ?_
    refine zr_cr rfl rfl rfl (zf_mono (Nat.le_of_ble_eq_true rfl) (sp_written hB hw hj)) ?_
    repeat refine zr_s rfl rfl rfl ?_
    refine zr_cr rfl rfl rfl (zf_mono (Nat.le_of_ble_eq_true rfl) (sp_read hB hw hi)) ?_
    repeat refine zr_s rfl rfl rfl ?_
    rw [zone_ne]
    refine zr_zeq rfl (zto_I _) (fun h => ?_) (fun h => ?_)
    · rw [tz] at h
      exact r3 d1 hd1 hd2 (by rw [if_neg (by simp [h]), ← he])
    · rw [tz] at h
      repeat refine zr_s rfl rfl rfl ?_
      refine zr_cr rfl rfl rfl (zf_mono (Nat.le_of_ble_eq_true rfl) (sp_max (by omega) (by decide))) ?_
      repeat refine zr_t 66 rfl rfl rfl rfl ?_
      exact r3 (max d1 0) (by omega) (by omega) (by rw [if_pos h, ← he])
  refine zr_zeq rfl (zto_I _) (fun h => ?_) (fun h => ?_)
  · rw [tz] at h
    exact r2 (-3) (by omega) (by omega) (by rw [if_neg (by simp [h])])
  · rw [tz] at h
    repeat refine zr_s rfl rfl rfl ?_
    refine zr_cr rfl rfl rfl (zf_mono (Nat.le_of_ble_eq_true rfl) (sp_latencyOf hB hw hi)) ?_
    repeat refine zr_t 36 rfl rfl rfl rfl ?_
    exact r2 (pl P i) (by omega) (by omega) (by rw [if_pos h])
end ZX
