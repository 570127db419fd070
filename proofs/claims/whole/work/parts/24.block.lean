/-! A BLOCK, and the class Block's methods that only look -/
/-- n, units, kinds, targets, firsts, seconds, numbers, latencies by kind -/
abbrev zP : Type := Nat × Nat × (Nat → Nat) × (Nat → Nat) × (Nat → Nat) × (Nat → Nat) × (Nat → Int) × (Nat → Nat)
def pn (P : zP) : Nat := P.1
def pu (P : zP) : Nat := P.2.1
def pK (P : zP) : Nat → Nat := P.2.2.1
def pT (P : zP) : Nat → Nat := P.2.2.2.1
def pA (P : zP) : Nat → Nat := P.2.2.2.2.1
def pB (P : zP) : Nat → Nat := P.2.2.2.2.2.1
def pC (P : zP) : Nat → Int := P.2.2.2.2.2.2.1
def pq (P : zP) : Nat → Nat := P.2.2.2.2.2.2.2
/-- an instruction's latency -/
def pl (P : zP) (i : Nat) : Nat := pq P (pK P i)
def zWf (P : zP) : Prop := pn P ≤ 60 ∧ 1 ≤ pu P ∧ pu P ≤ 8 ∧ (∀ k, k < 7 → 1 ≤ pq P k ∧ pq P k ≤ 12) ∧ ∀ i, i < pn P → pK P i < 7 ∧ pT P i < 16 ∧ pA P i < 16 ∧ pB P i < 16 ∧ zI (pC P i)
/-- the class's cells hold the block -/
def zBk (M : zM) (P : zP) : Prop := M 2 6 = pn P ∧ M 2 7 = pu P ∧ (∀ k, k < 7 → M 8 k = pq P k) ∧ ∀ i, i < pn P → M 3 i = pK P i ∧ M 4 i = pT P i ∧ M 5 i = pA P i ∧ M 6 i = pB P i ∧ M 7 i = pC P i
theorem zBk_of {M M1 : zM} {P : zP} (h : zBk M P) (e : ∀ a, 2 ≤ a → a ≤ 8 → M1 a = M a) : zBk M1 P := by
  unfold zBk
  rw [e 2 (by omega) (by omega), e 3 (by omega) (by omega), e 4 (by omega) (by omega), e 5 (by omega) (by omega), e 6 (by omega) (by omega), e 7 (by omega) (by omega), e 8 (by omega) (by omega)]
  exact h
theorem zpl_le {P : zP} (hw : zWf P) {i : Nat} (hi : i < pn P) : 1 ≤ pl P i ∧ pl P i ≤ 12 := hw.2.2.2.1 _ (hw.2.2.2.2 i hi).1
def zone (t : Nat) : Int32 := Int32.ofInt 1 <<< (Int32.ofInt (t : Int) &&& 31)
/-- masks of the registers written and read -/
def zWm (P : zP) (i : Nat) : Int32 := if pK P i ≠ 6 then zone (pT P i) else 0
def zRm (P : zP) (i : Nat) : Int32 := if pK P i ≠ 0 then (if pK P i ≠ 5 then (0 ||| zone (pA P i)) ||| zone (pB P i) else 0 ||| zone (pA P i)) else 0
theorem zor_to (x y : Int32) : zor x.toInt y.toInt = (x ||| y).toInt := by simp [zor]
theorem zand_to (x y : Int32) : zand x.toInt y.toInt = (x &&& y).toInt := by simp [zand]
theorem zxor_to (x y : Int32) : zxor x.toInt y.toInt = (x ^^^ y).toInt := by simp [zxor]
/-- how long a plan is -/
def zlen (P : zP) (f : Nat → Int) : Nat → Int
  | 0 => 0
  | i + 1 => max (zlen P f i) (f i + pl P i)
section ZX
variable {L : Nat} {M : zM} {P : zP}
theorem sp_holds {x : Int} (hB : zBk M P) (hw : zWf P) (hx : zI x) : zf (zSh L) 1 kX0_holds [zvr 2, zvi x] M (fun v M1 => v = some (.inl (zb (decide (0 ≤ x ∧ x < pn P)))) ∧ M1 = M) := by
  have hn := hB.1
  have h60 := hw.1
  refine zf_of rfl (Nat.le_of_ble_eq_true rfl) ?_
  repeat refine zr_s rfl rfl rfl ?_
  refine zr_zlt rfl hx (fun h => ?_) (fun h => ?_)
  · repeat refine zr_s rfl rfl rfl ?_
    exact zr_retz rfl (by omega) (⟨by rw [zb_f (by simp; omega)], rfl⟩)
  · repeat refine zr_s rfl rfl rfl ?_
    refine zr_ige rfl hx (by omega) (fun h => ?_) (fun h => ?_)
    · repeat refine zr_s rfl rfl rfl ?_
      exact zr_retz rfl (by omega) (⟨by rw [zb_f (by simp; omega)], rfl⟩)
    · repeat refine zr_s rfl rfl rfl ?_
      exact zr_retz rfl (by omega) (⟨by rw [zb_t (by simp; omega)], rfl⟩)
theorem sp_latencyOf {i : Nat} (hB : zBk M P) (hw : zWf P) (hi : i < pn P) : zf (zSh L) 1 kX0_latencyOf [zvr 2, zvi i] M (fun v M1 => v = some (.inl (pl P i)) ∧ M1 = M) := by
  have h60 := hw.1
  have hk := (hB.2.2.2 i hi).1
  have hk7 := (hw.2.2.2.2 i hi).1
  refine zf_of rfl (Nat.le_of_ble_eq_true rfl) ?_
  repeat refine zr_s rfl rfl rfl ?_
  refine zr_ald (i) rfl rfl rfl (by omega) (by decide) ?_
  refine zr_ald (pK P i) rfl rfl (by omega) (by omega) (by decide) ?_
  exact zr_ret rfl (⟨by rw [hB.2.2.1 _ hk7]; rfl, rfl⟩)
theorem sp_written {i : Nat} (hB : zBk M P) (hw : zWf P) (hi : i < pn P) : zf (zSh L) 2 kX0_written [zvr 2, zvi i] M (fun v M1 => v = some (.inl (zWm P i).toInt) ∧ M1 = M) := by
  have h60 := hw.1
  obtain ⟨hk, ht, -⟩ := hB.2.2.2 i hi
  obtain ⟨hk7, ht16, -⟩ := hw.2.2.2.2 i hi
  refine zf_of rfl (Nat.le_of_ble_eq_true rfl) ?_
  repeat refine zr_s rfl rfl rfl ?_
  refine zr_ald (i) rfl rfl rfl (by omega) (by decide) ?_
  refine zr_cr rfl rfl rfl (zf_mono (Nat.le_of_ble_eq_true rfl) (sp_namesTarget (by omega))) ?_
  refine zr_zeq rfl (zb_I _) (fun h => ?_) (fun h => ?_)
  · repeat refine zr_s rfl rfl rfl ?_
    refine zr_ret rfl ⟨?_, rfl⟩
    have : pK P i = 6 := by
      by_cases h6 : pK P i = 6
      · exact h6
      · rw [zb_t (by simp; omega)] at h
        cases h
    simp [zWm, this]
  · repeat refine zr_s rfl rfl rfl ?_
    refine zr_ald (i) rfl rfl rfl (by omega) (by decide) ?_
    repeat refine zr_s rfl rfl rfl ?_
    refine zr_ret rfl ⟨?_, rfl⟩
    have : pK P i ≠ 6 := by
      intro h6
      rw [zb_f (by simp; omega)] at h
      exact h rfl
    rw [ht]
    simp [zWm, this, zone, zshl]
theorem sp_usesMemory {i : Nat} (hB : zBk M P) (hw : zWf P) (hi : i < pn P) : zf (zSh L) 1 kX0_usesMemory [zvr 2, zvi i] M (fun v M1 => v = some (.inl (zb (decide (5 ≤ pK P i)))) ∧ M1 = M) := by
  have h60 := hw.1
  obtain ⟨hk, ht, -⟩ := hB.2.2.2 i hi
  obtain ⟨hk7, ht16, -⟩ := hw.2.2.2.2 i hi
  refine zf_of rfl (Nat.le_of_ble_eq_true rfl) ?_
  repeat refine zr_s rfl rfl rfl ?_
  refine zr_ald (i) rfl rfl rfl (by omega) (by decide) ?_
  repeat refine zr_s rfl rfl rfl ?_
  refine zr_ieq rfl (by omega) (by omega) (fun h => ?_) (fun h => ?_)
  · repeat refine zr_s rfl rfl rfl ?_
    exact zr_retz rfl (by omega) (⟨by rw [zb_t (by simp; omega)], rfl⟩)
  · repeat refine zr_s rfl rfl rfl ?_
    refine zr_ald (i) rfl rfl rfl (by omega) (by decide) ?_
    repeat refine zr_s rfl rfl rfl ?_
    refine zr_ine rfl (by omega) (by omega) (fun h => ?_) (fun h => ?_)
    · repeat refine zr_s rfl rfl rfl ?_
      exact zr_retz rfl (by omega) (⟨by rw [zb_f (by simp; omega)], rfl⟩)
    · repeat refine zr_s rfl rfl rfl ?_
      exact zr_retz rfl (by omega) (⟨by rw [zb_t (by simp; omega)], rfl⟩)
theorem sp_read {i : Nat} (hB : zBk M P) (hw : zWf P) (hi : i < pn P) : zf (zSh L) 2 kX0_read [zvr 2, zvi i] M (fun v M1 => v = some (.inl (zRm P i).toInt) ∧ M1 = M) := by
  have h60 := hw.1
  obtain ⟨hk, ht, ha, hb, -⟩ := hB.2.2.2 i hi
  obtain ⟨hk7, ht16, ha16, hb16, -⟩ := hw.2.2.2.2 i hi
  refine zf_of rfl (Nat.le_of_ble_eq_true rfl) ?_
  repeat refine zr_s rfl rfl rfl ?_
  refine zr_ald (i) rfl rfl rfl (by omega) (by decide) ?_
  refine zr_cr rfl rfl rfl (zf_mono (Nat.le_of_ble_eq_true rfl) (sp_namesFirst (by omega))) ?_
  by_cases h0 : pK P i = 0
  · rw [zb_f (by simp; omega)]
    refine zr_zeq rfl (by decide) (fun h => ?_) (fun h => absurd rfl h)
    repeat refine zr_s rfl rfl rfl ?_
    refine zr_ald (i) rfl rfl rfl (by omega) (by decide) ?_
    refine zr_cr rfl rfl rfl (zf_mono (Nat.le_of_ble_eq_true rfl) (sp_namesSecond (by omega))) ?_
    rw [zb_f (by simp; omega)]
    refine zr_zeq rfl (by decide) (fun h => ?_) (fun h => absurd rfl h)
    repeat refine zr_s rfl rfl rfl ?_
    exact zr_ret rfl (⟨by simp [zRm, h0], rfl⟩)
  · rw [zb_t (by simp; omega)]
    refine zr_zeq rfl (by decide) (fun h => by cases h) (fun _ => ?_)
    repeat refine zr_s rfl rfl rfl ?_
    refine zr_ald (i) rfl rfl rfl (by omega) (by decide) ?_
    repeat refine zr_s rfl rfl rfl ?_
    refine zr_ald (i) rfl rfl rfl (by omega) (by decide) ?_
    rw [ha]
    refine zr_cr rfl rfl rfl (zf_mono (Nat.le_of_ble_eq_true rfl) (sp_namesSecond (by omega))) ?_
    by_cases h5 : pK P i = 5
    · rw [zb_f (by simp; omega)]
      refine zr_zeq rfl (by decide) (fun h => ?_) (fun h => absurd rfl h)
      repeat refine zr_s rfl rfl rfl ?_
      refine zr_ret rfl ⟨?_, rfl⟩
      simp [zRm, h0, h5, zor, zshl, zone]
    · rw [zb_t (by simp; omega)]
      refine zr_zeq rfl (by decide) (fun h => by cases h) (fun _ => ?_)
      repeat refine zr_s rfl rfl rfl ?_
      refine zr_ald (i) rfl rfl rfl (by omega) (by decide) ?_
      rw [hb]
      repeat refine zr_s rfl rfl rfl ?_
      refine zr_ret rfl ⟨?_, rfl⟩
      simp [zRm, h0, h5, zor, zshl, zone]
theorem zlen_I {P : zP} (hw : zWf P) {f : Nat → Int} (hf : ∀ i, i < pn P → -3 ≤ f i ∧ f i ≤ 1000000) : ∀ i, i ≤ pn P → 0 ≤ zlen P f i ∧ zlen P f i ≤ 1000012
  | 0, _ => by simp [zlen]
  | i + 1, h => by
    have h1 := zlen_I hw hf i (by omega)
    have h2 := hf i (by omega)
    have h3 := zpl_le hw (i := i) (by omega)
    simp only [zlen]
    omega
theorem sp_lengthOf {j : Nat} (hB : zBk M P) (hw : zWf P) (hj : (zSh L)[j]? = some (.inl 60)) (hf : ∀ i, i < pn P → -3 ≤ M j i ∧ M j i ≤ 1000000) : zf (zSh L) 2 kX0_lengthOf [zvr 2, zvr j] M (fun v M1 => v = some (.inl (zlen P (M j) (pn P))) ∧ M1 = M) := by
  have h60 := hw.1
  have hn := hB.1
  refine zf_of rfl (Nat.le_of_ble_eq_true rfl) ?_
  repeat refine zr_t 4 rfl rfl rfl rfl ?_
  have loop : ∀ (k i : Nat), i + k = pn P → zr (zSh L) 1 tX0_lengthOf 4 [some (zvr 2), some (zvr j), some (zvi (zlen P (M j) i)), some (zvi i)] [] M (fun v M1 => v = some (.inl (zlen P (M j) (pn P))) ∧ M1 = M) := by
    intro k
    induction k with
    | zero =>
      intro i hi
      repeat refine zr_s rfl rfl rfl ?_
      refine zr_ige rfl (by omega) (by omega) (fun h => ?_) (fun h => by omega)
      repeat refine zr_s rfl rfl rfl ?_
      exact zr_ret rfl (⟨by rw [show i = pn P by omega], rfl⟩)
    | succ k ih =>
      intro i hi
      have hl := zlen_I hw hf i (by omega)
      have hfi := hf i (by omega)
      have hp := zpl_le hw (i := i) (by omega)
      repeat refine zr_s rfl rfl rfl ?_
      refine zr_ige rfl (by omega) (by omega) (fun h => by omega) (fun h => ?_)
      repeat refine zr_s rfl rfl rfl ?_
      refine zr_ald i rfl hj rfl (by omega) (by decide) ?_
      repeat refine zr_s rfl rfl rfl ?_
      refine zr_cr rfl rfl rfl (zf_mono (Nat.le_of_ble_eq_true rfl) (sp_latencyOf hB hw (by omega))) ?_
      repeat refine zr_s rfl rfl rfl ?_
      refine zr_cr rfl rfl rfl (zf_mono (Nat.le_of_ble_eq_true rfl) (sp_max (by omega) (by omega))) ?_
      repeat refine zr_s rfl rfl rfl ?_
      refine zr_b rfl rfl ?_
      exact ih (i + 1) (by omega)
  exact loop (pn P) 0 (by omega)
end ZX
