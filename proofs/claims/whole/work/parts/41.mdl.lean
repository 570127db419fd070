/-! THE REFERENCE: its block, what reads and writes what, its delays -/
def zBm (M : zM) (P : zP) : Prop := M 34 5 = pn P ∧ M 34 7 = pu P ∧ (∀ k, k < 7 → M 40 k = pq P k) ∧ ∀ i, i < pn P → M 35 i = pK P i ∧ (pK P i ≠ 6 → M 36 i = pT P i) ∧ (pK P i ≠ 0 → M 37 i = pA P i) ∧ (pK P i ≠ 0 → pK P i ≠ 5 → M 38 i = pB P i) ∧ M 39 i = pC P i
theorem zBm_of {M M1 : zM} {P : zP} (h : zBm M P) (e : ∀ a, 34 ≤ a → a ≤ 40 → M1 a = M a) : zBm M1 P := by
  unfold zBm at h ⊢
  rw [e 34 (by omega) (by omega), e 35 (by omega) (by omega), e 36 (by omega) (by omega), e 37 (by omega) (by omega), e 38 (by omega) (by omega), e 39 (by omega) (by omega), e 40 (by omega) (by omega)]
  exact h
def zwr (P : zP) (i r : Nat) : Bool := decide (pK P i ≠ 6 ∧ pT P i = r)
def zrd (P : zP) (i r : Nat) : Bool := decide ((pK P i ≠ 0 ∧ pA P i = r) ∨ (pK P i ≠ 0 ∧ pK P i ≠ 5 ∧ pB P i = r))
/-- one of the numbers below m -/
def zan (c : Nat → Bool) : Nat → Bool
  | 0 => false
  | m + 1 => zan c m || c m
theorem zan_iff' {c : Nat → Bool} : ∀ m, zan c m = true ↔ ∃ r, r < m ∧ c r = true
  | 0 => by
    constructor
    · intro h
      cases h
    · rintro ⟨r, h, -⟩
      omega
  | m + 1 => by
    show (zan c m || c m) = true ↔ _
    rw [Bool.or_eq_true, zan_iff' m]
    constructor
    · rintro (⟨r, h1, h2⟩ | h)
      · exact ⟨r, by omega, h2⟩
      · exact ⟨m, by omega, h⟩
    · rintro ⟨r, h1, h2⟩
      by_cases h : r = m
      · exact Or.inr (h ▸ h2)
      · exact Or.inl ⟨r, by omega, h2⟩
theorem zan_iff {c : Nat → Bool} {m : Nat} : zan c m = true ↔ ∃ r, r < m ∧ c r = true := zan_iff' m
/-- is r written by one of a, .., b - 1 -/
def zwn (P : zP) (r a b : Nat) : Bool := zan (fun k => decide (a ≤ k) && zwr P k r) b
theorem zwn_iff {P : zP} {r a b : Nat} : zwn P r a b = true ↔ ∃ k, a ≤ k ∧ k < b ∧ zwr P k r = true := by
  unfold zwn
  rw [zan_iff]
  constructor
  · rintro ⟨k, h1, h2⟩
    rw [Bool.and_eq_true, decide_eq_true_eq] at h2
    exact ⟨k, h2.1, h1, h2.2⟩
  · rintro ⟨k, h1, h2, h3⟩
    exact ⟨k, h2, by rw [Bool.and_eq_true, decide_eq_true_eq]; exact ⟨h1, h3⟩⟩
theorem zand63w (x : Int) : zand x 63 = zw x % 64 := by
  have h : ∀ z : Int32, (z &&& 63).toInt = z.toInt % 64 := by
    intro z
    show (z.toBitVec &&& 63#32).toInt = z.toBitVec.toInt % 64
    have e : (z.toBitVec &&& 63#32).toNat = z.toBitVec.toNat % 64 := by
      rw [BitVec.toNat_and]
      exact Nat.and_two_pow_sub_one_eq_mod _ 6
    have hl := z.toBitVec.isLt
    rw [BitVec.toInt_eq_toNat_cond, BitVec.toInt_eq_toNat_cond, e]
    generalize z.toBitVec.toNat = n at *
    split <;> split <;> omega
  exact h _
theorem zand63 {x : Int} (hx : zI x) : zand x 63 = x % 64 := by
  rw [zand63w, zwid hx.1 hx.2]
/-- what memory asks, as the reference says it -/
def zmR (P : zP) (i j : Nat) : Int :=
  if 5 ≤ pK P i ∧ 5 ≤ pK P j ∧ (pK P i = 6 ∨ pK P j = 6) ∧ (pA P i ≠ pA P j ∨ zwn P (pA P i) i j = true ∨ pC P i % 64 = pC P j % 64) then (if pK P i = 5 then 0 else if pK P j = 5 then pl P i else 1) else -1
def zc1 (P : zP) (i j r : Nat) : Bool := !zwn P r (i + 1) j && (zwr P i r && zrd P j r)
def zc2 (P : zP) (i j r : Nat) : Bool := !zwn P r (i + 1) j && (zrd P i r && zwr P j r)
def zc3 (P : zP) (i j r : Nat) : Bool := !zwn P r (i + 1) j && (zwr P i r && zwr P j r)
def zov (P : zP) (i j : Nat) : Int := max 1 ((pl P i : Int) - pl P j + 1)
/-- the delay behind m registers -/
def zdv (P : zP) (i j m : Nat) : Int := max (max (zmR P i j) (if zan (zc1 P i j) m = true then (pl P i : Int) else -1)) (max (if zan (zc2 P i j) m = true then (0 : Int) else -1) (if zan (zc3 P i j) m = true then zov P i j else -1))
theorem zmR_I {P : zP} (hw : zWf P) {i j : Nat} (hi : i < pn P) : -1 ≤ zmR P i j ∧ zmR P i j ≤ 12 := by
  have h1 := zpl_le hw hi
  unfold zmR
  split
  · split
    · omega
    · split <;> omega
  · omega
theorem zov_I {P : zP} (hw : zWf P) {i j : Nat} (hi : i < pn P) (hj : j < pn P) : 1 ≤ zov P i j ∧ zov P i j ≤ 12 := by
  have h1 := zpl_le hw hi
  have h2 := zpl_le hw hj
  unfold zov
  omega
theorem zdv_I {P : zP} (hw : zWf P) {i j : Nat} (hi : i < pn P) (hj : j < pn P) (m : Nat) : -1 ≤ zdv P i j m ∧ zdv P i j m ≤ 12 := by
  have h1 := zpl_le hw hi
  have h2 := zmR_I hw (j := j) hi
  have h3 := zov_I hw hi hj
  unfold zdv
  split <;> split <;> split <;> omega
section ZX
variable {L : Nat} {M : zM} {P : zP}
theorem sp_M_writes {i r : Nat} (hB : zBm M P) (hw : zWf P) (hi : i < pn P) (hr : r < 16) : zf (zSh L) 1 kX8_writes [zvr 34, zvi i, zvi r] M (fun v M1 => v = some (.inl (zb (zwr P i r))) ∧ M1 = M) := by
  have h60 := hw.1
  obtain ⟨hk, ht, ha, hb, hc⟩ := hw.2.2.2.2 i hi
  obtain ⟨b1, b2, b3, b4⟩ := hB
  obtain ⟨x1, x2, x3, x4, x5⟩ := b4 i hi
  refine zf_of rfl (Nat.le_of_ble_eq_true rfl) ?_
  repeat refine zr_s rfl rfl rfl ?_
  refine zr_ald (i) rfl rfl rfl (by omega) (by decide) ?_
  repeat refine zr_s rfl rfl rfl ?_
  rw [x1]
  refine zr_ieq rfl (by omega) (by decide) (fun h => ?_) (fun h => ?_)
  · repeat refine zr_s rfl rfl rfl ?_
    exact zr_retz rfl (by omega) (⟨by rw [zb_f (by unfold zwr; simp; omega)], rfl⟩)
  · repeat refine zr_s rfl rfl rfl ?_
    refine zr_ald (i) rfl rfl rfl (by omega) (by decide) ?_
    repeat refine zr_s rfl rfl rfl ?_
    rw [x2 (by omega)]
    refine zr_ine rfl (by omega) (by omega) (fun h2 => ?_) (fun h2 => ?_)
    · repeat refine zr_s rfl rfl rfl ?_
      exact zr_retz rfl (by omega) (⟨by rw [zb_f (by unfold zwr; simp; omega)], rfl⟩)
    · repeat refine zr_s rfl rfl rfl ?_
      exact zr_retz rfl (by omega) (⟨by rw [zb_t (by unfold zwr; simp; omega)], rfl⟩)
theorem sp_M_reads {i r : Nat} (hB : zBm M P) (hw : zWf P) (hi : i < pn P) (hr : r < 16) : zf (zSh L) 1 kX8_reads [zvr 34, zvi i, zvi r] M (fun v M1 => v = some (.inl (zb (zrd P i r))) ∧ M1 = M) := by
  have h60 := hw.1
  obtain ⟨hk, ht, ha, hb, hc⟩ := hw.2.2.2.2 i hi
  obtain ⟨b1, b2, b3, b4⟩ := hB
  obtain ⟨x1, x2, x3, x4, x5⟩ := b4 i hi
  have no : zrd P i r = false → zr (zSh L) 0 tX8_reads 51 [some (zvr 34), some (zvi i), some (zvi r), some (zvi (pK P i))] [] M (fun v M1 => v = some (.inl (zb (zrd P i r))) ∧ M1 = M) := fun h => by
    repeat refine zr_s rfl rfl rfl ?_
    exact zr_retz rfl (by omega) (⟨by rw [zb_f h], rfl⟩)
  have yes : zrd P i r = true → zr (zSh L) 0 tX8_reads 47 [some (zvr 34), some (zvi i), some (zvi r), some (zvi (pK P i))] [] M (fun v M1 => v = some (.inl (zb (zrd P i r))) ∧ M1 = M) := fun h => by
    repeat refine zr_s rfl rfl rfl ?_
    exact zr_retz rfl (by omega) (⟨by rw [zb_t h], rfl⟩)
  have sec : pK P i ≠ 0 → pK P i ≠ 5 → pA P i ≠ r → zr (zSh L) 0 tX8_reads 37 [some (zvr 34), some (zvi i), some (zvi r), some (zvi (pK P i))] [] M (fun v M1 => v = some (.inl (zb (zrd P i r))) ∧ M1 = M) := fun h0 h5 hA => by
    repeat refine zr_s rfl rfl rfl ?_
    refine zr_ald (i) rfl rfl rfl (by omega) (by decide) ?_
    repeat refine zr_s rfl rfl rfl ?_
    rw [x4 h0 h5]
    refine zr_ine rfl (by omega) (by omega) (fun h => no (by unfold zrd; simp; omega)) (fun h => yes (by unfold zrd; simp; omega))
  have mid : (pK P i = 0 ∨ pA P i ≠ r) → zr (zSh L) 0 tX8_reads 21 [some (zvr 34), some (zvi i), some (zvi r), some (zvi (pK P i))] [] M (fun v M1 => v = some (.inl (zb (zrd P i r))) ∧ M1 = M) := fun hA => by
    have six : (pK P i = 0 ∨ 4 < pK P i) → zr (zSh L) 0 tX8_reads 31 [some (zvr 34), some (zvi i), some (zvi r), some (zvi (pK P i))] [] M (fun v M1 => v = some (.inl (zb (zrd P i r))) ∧ M1 = M) := fun h => by
      repeat refine zr_s rfl rfl rfl ?_
      refine zr_ine rfl (by omega) (by decide) (fun h2 => no (by unfold zrd; simp; omega)) (fun h2 => sec (by omega) (by omega) (by omega))
    repeat refine zr_s rfl rfl rfl ?_
    refine zr_ilt rfl (by omega) (by decide) (fun h => six (by omega)) (fun h => ?_)
    repeat refine zr_s rfl rfl rfl ?_
    refine zr_ile rfl (by omega) (by decide) (fun h2 => sec (by omega) (by omega) (by omega)) (fun h2 => six (by omega))
  refine zf_of rfl (Nat.le_of_ble_eq_true rfl) ?_
  repeat refine zr_s rfl rfl rfl ?_
  refine zr_ald (i) rfl rfl rfl (by omega) (by decide) ?_
  repeat refine zr_s rfl rfl rfl ?_
  rw [x1]
  refine zr_zeq rfl (by omega) (fun h => mid (by omega)) (fun h => ?_)
  repeat refine zr_s rfl rfl rfl ?_
  refine zr_ald (i) rfl rfl rfl (by omega) (by decide) ?_
  repeat refine zr_s rfl rfl rfl ?_
  rw [x3 (by omega)]
  exact zr_ieq rfl (by omega) (by omega) (fun h2 => yes (by unfold zrd; simp; omega)) (fun h2 => mid (by omega))
theorem sp_M_isWritten {a b r : Nat} (hB : zBm M P) (hw : zWf P) (ha : a ≤ pn P) (hb : b ≤ pn P) (hr : r < 16) : zf (zSh L) 2 kX8_isWritten [zvr 34, zvi a, zvi b, zvi r] M (fun v M1 => v = some (.inl (zb (zwn P r a b))) ∧ M1 = M) := by
  have h60 := hw.1
  have loop : ∀ (t k : Nat), k + t = 60 → k ≤ pn P → a ≤ k → (∀ q, a ≤ q → q < k → zwr P q r = false) → zr (zSh L) 1 tX8_isWritten 3 [some (zvr 34), some (zvi a), some (zvi b), some (zvi r), some (zvi k)] [] M (fun v M1 => v = some (.inl (zb (zwn P r a b))) ∧ M1 = M) := by
    intro t
    induction t with
    | zero =>
      intro k h1 h2 h3 h4
      repeat refine zr_s rfl rfl rfl ?_
      refine zr_ige rfl (by omega) (by omega) (fun h => ?_) (fun h => ?_)
      · repeat refine zr_s rfl rfl rfl ?_
        exact zr_retz rfl (by omega) (⟨by rw [zb_f (by rw [← Bool.not_eq_true, zwn_iff]; rintro ⟨q, q1, q2, q3⟩; rw [h4 q q1 (by omega)] at q3; cases q3)], rfl⟩)
      · omega
    | succ t ih =>
      intro k h1 h2 h3 h4
      repeat refine zr_s rfl rfl rfl ?_
      refine zr_ige rfl (by omega) (by omega) (fun h => ?_) (fun h => ?_)
      · repeat refine zr_s rfl rfl rfl ?_
        exact zr_retz rfl (by omega) (⟨by rw [zb_f (by rw [← Bool.not_eq_true, zwn_iff]; rintro ⟨q, q1, q2, q3⟩; rw [h4 q q1 (by omega)] at q3; cases q3)], rfl⟩)
      · repeat refine zr_s rfl rfl rfl ?_
        refine zr_cr rfl rfl rfl (zf_mono (Nat.le_of_ble_eq_true rfl) (sp_M_writes hB hw (by omega) hr)) ?_
        by_cases hz : zwr P k r = true
        · rw [zb_t hz]
          refine zr_zeq rfl (by decide) (fun h => by cases h) (fun _ => ?_)
          repeat refine zr_s rfl rfl rfl ?_
          exact zr_retz rfl (by omega) (⟨by rw [zb_t (zwn_iff.mpr ⟨k, h3, by omega, hz⟩)], rfl⟩)
        · rw [Bool.not_eq_true] at hz
          rw [zb_f hz]
          refine zr_zeq rfl (by decide) (fun _ => ?_) (fun h => absurd rfl h)
          repeat refine zr_s rfl rfl rfl ?_
          refine zr_b rfl rfl ?_
          exact ih (k + 1) (by omega) (by omega) (by omega) (fun q q1 q2 => by
            by_cases h5 : q = k
            · rw [h5]; exact hz
            · exact h4 q q1 (by omega))
  refine zf_of rfl (Nat.le_of_ble_eq_true rfl) ?_
  repeat refine zr_t 3 rfl rfl rfl rfl ?_
  exact loop (60 - a) a (by omega) ha (Nat.le_refl _) (fun q q1 q2 => by omega)
theorem sp_M_latencyOf {i : Nat} (hB : zBm M P) (hw : zWf P) (hi : i < pn P) : zf (zSh L) 1 kX8_latencyOf [zvr 34, zvi i] M (fun v M1 => v = some (.inl (pl P i)) ∧ M1 = M) := by
  have h60 := hw.1
  obtain ⟨hk, ht, ha, hb, hc⟩ := hw.2.2.2.2 i hi
  obtain ⟨b1, b2, b3, b4⟩ := hB
  obtain ⟨x1, x2, x3, x4, x5⟩ := b4 i hi
  refine zf_of rfl (Nat.le_of_ble_eq_true rfl) ?_
  repeat refine zr_s rfl rfl rfl ?_
  refine zr_ald (i) rfl rfl rfl (by omega) (by decide) ?_
  rw [x1]
  refine zr_ald (pK P i) rfl rfl rfl (by omega) (by decide) ?_
  rw [b3 _ hk]
  exact zr_ret rfl (⟨rfl, rfl⟩)
theorem sp_M_mayMeet {i j : Nat} (hB : zBm M P) (hw : zWf P) (hi : i < pn P) (hj : j < pn P) (h5i : pK P i ≠ 0) (h5j : pK P j ≠ 0) : zf (zSh L) 3 kX8_mayMeet [zvr 34, zvi i, zvi j] M (fun v M1 => v = some (.inl (zb (decide (pA P i ≠ pA P j ∨ zwn P (pA P i) i j = true ∨ pC P i % 64 = pC P j % 64)))) ∧ M1 = M) := by
  have h60 := hw.1
  obtain ⟨hk, ht, ha, hb, hc⟩ := hw.2.2.2.2 i hi
  obtain ⟨hk', ht', ha', hb', hc'⟩ := hw.2.2.2.2 j hj
  have hB0 := hB
  obtain ⟨b1, b2, b3, b4⟩ := hB
  obtain ⟨x1, x2, x3, x4, x5⟩ := b4 i hi
  obtain ⟨y1, y2, y3, y4, y5⟩ := b4 j hj
  have yes : (pA P i ≠ pA P j ∨ zwn P (pA P i) i j = true ∨ pC P i % 64 = pC P j % 64) → zr (zSh L) 2 tX8_mayMeet 51 [some (zvr 34), some (zvi i), some (zvi j)] [] M (fun v M1 => v = some (.inl (zb (decide (pA P i ≠ pA P j ∨ zwn P (pA P i) i j = true ∨ pC P i % 64 = pC P j % 64)))) ∧ M1 = M) := fun h => by
    repeat refine zr_s rfl rfl rfl ?_
    exact zr_retz rfl (by omega) (⟨by rw [zb_t (by rw [decide_eq_true_eq]; exact h)], rfl⟩)
  refine zf_of rfl (Nat.le_of_ble_eq_true rfl) ?_
  repeat refine zr_s rfl rfl rfl ?_
  refine zr_ald (i) rfl rfl rfl (by omega) (by decide) ?_
  repeat refine zr_s rfl rfl rfl ?_
  refine zr_ald (j) rfl rfl rfl (by omega) (by decide) ?_
  rw [x3 h5i, y3 h5j]
  refine zr_ine rfl (by omega) (by omega) (fun h => yes (Or.inl (by omega))) (fun h => ?_)
  repeat refine zr_s rfl rfl rfl ?_
  refine zr_ald (i) rfl rfl rfl (by omega) (by decide) ?_
  rw [x3 h5i]
  refine zr_cr rfl rfl rfl (zf_mono (Nat.le_of_ble_eq_true rfl) (sp_M_isWritten hB0 hw (by omega) (by omega) ha)) ?_
  by_cases hz : zwn P (pA P i) i j = true
  · rw [zb_t hz]
    exact zr_zne rfl (by decide) (fun _ => yes (Or.inr (Or.inl hz))) (fun h => by cases h)
  rw [zb_f (by simpa using hz)]
  refine zr_zne rfl (by decide) (fun h => absurd rfl h) (fun _ => ?_)
  repeat refine zr_s rfl rfl rfl ?_
  refine zr_ald (i) rfl rfl rfl (by omega) (by decide) ?_
  repeat refine zr_s rfl rfl rfl ?_
  refine zr_ald (j) rfl rfl rfl (by omega) (by decide) ?_
  repeat refine zr_s rfl rfl rfl ?_
  rw [x5, y5, zand63 hc, zand63 hc']
  refine zr_ine rfl (by omega) (by omega) (fun h2 => ?_) (fun h2 => yes (Or.inr (Or.inr h2)))
  repeat refine zr_s rfl rfl rfl ?_
  exact zr_retz rfl (by omega) (⟨by rw [zb_f (by rw [decide_eq_false_iff_not]; exact fun z => z.elim (fun z => z (by omega)) (fun z => z.elim hz h2))], rfl⟩)
theorem sp_M_memoryDelay {i j : Nat} (hB : zBm M P) (hw : zWf P) (hi : i < pn P) (hj : j < pn P) : zf (zSh L) 4 kX8_memoryDelay [zvr 34, zvi i, zvi j] M (fun v M1 => v = some (.inl (zmR P i j)) ∧ M1 = M) := by
  have h60 := hw.1
  obtain ⟨hk, ht, ha, hb, hc⟩ := hw.2.2.2.2 i hi
  obtain ⟨hk', ht', ha', hb', hc'⟩ := hw.2.2.2.2 j hj
  have hB0 := hB
  obtain ⟨b1, b2, b3, b4⟩ := hB
  obtain ⟨x1, x2, x3, x4, x5⟩ := b4 i hi
  obtain ⟨y1, y2, y3, y4, y5⟩ := b4 j hj
  have no : ¬ (5 ≤ pK P i ∧ 5 ≤ pK P j ∧ (pK P i = 6 ∨ pK P j = 6)) → zr (zSh L) 3 tX8_memoryDelay 46 [some (zvr 34), some (zvi i), some (zvi j), none] [] M (fun v M1 => v = some (.inl (zmR P i j)) ∧ M1 = M) := fun h => by
    repeat refine zr_s rfl rfl rfl ?_
    refine zr_zeq rfl (by decide) (fun _ => ?_) (fun h => absurd rfl h)
    repeat refine zr_s rfl rfl rfl ?_
    refine zr_ret rfl ?_
    unfold zmR
    rw [if_neg (fun z => h ⟨z.1, z.2.1, z.2.2.1⟩)]
    exact ⟨rfl, rfl⟩
  have yes : (5 ≤ pK P i ∧ 5 ≤ pK P j ∧ (pK P i = 6 ∨ pK P j = 6)) → zr (zSh L) 3 tX8_memoryDelay 42 [some (zvr 34), some (zvi i), some (zvi j), none] [] M (fun v M1 => v = some (.inl (zmR P i j)) ∧ M1 = M) := fun h => by
    repeat refine zr_s rfl rfl rfl ?_
    refine zr_zeq rfl (by decide) (fun h => by cases h) (fun _ => ?_)
    repeat refine zr_s rfl rfl rfl ?_
    refine zr_cr rfl rfl rfl (zf_mono (Nat.le_of_ble_eq_true rfl) (sp_M_mayMeet hB0 hw hi hj (by omega) (by omega))) ?_
    by_cases hm : pA P i ≠ pA P j ∨ zwn P (pA P i) i j = true ∨ pC P i % 64 = pC P j % 64
    rotate_left
    · rw [zb_f (by rw [decide_eq_false_iff_not]; exact hm)]
      refine zr_zne rfl (by decide) (fun h => absurd rfl h) (fun _ => ?_)
      repeat refine zr_s rfl rfl rfl ?_
      refine zr_ret rfl ?_
      unfold zmR
      rw [if_neg (fun z => hm z.2.2.2)]
      exact ⟨rfl, rfl⟩
    rw [zb_t (by rw [decide_eq_true_eq]; exact hm)]
    refine zr_zne rfl (by decide) (fun _ => ?_) (fun h => by cases h)
    unfold zmR
    rw [if_pos ⟨h.1, h.2.1, h.2.2, hm⟩]
    repeat refine zr_s rfl rfl rfl ?_
    refine zr_ald (i) rfl rfl rfl (by omega) (by decide) ?_
    repeat refine zr_s rfl rfl rfl ?_
    rw [x1]
    refine zr_ine rfl (by omega) (by decide) (fun h2 => ?_) (fun h2 => ?_)
    · rw [if_neg (by omega)]
      repeat refine zr_s rfl rfl rfl ?_
      refine zr_ald (j) rfl rfl rfl (by omega) (by decide) ?_
      repeat refine zr_s rfl rfl rfl ?_
      rw [y1]
      refine zr_ine rfl (by omega) (by decide) (fun h3 => ?_) (fun h3 => ?_)
      · rw [if_neg (by omega)]
        repeat refine zr_s rfl rfl rfl ?_
        exact zr_ret rfl (⟨rfl, rfl⟩)
      · rw [if_pos (by omega)]
        repeat refine zr_s rfl rfl rfl ?_
        refine zr_cr rfl rfl rfl (zf_mono (Nat.le_of_ble_eq_true rfl) (sp_M_latencyOf hB0 hw hi)) ?_
        repeat refine zr_s rfl rfl rfl ?_
        exact zr_ret rfl (⟨rfl, rfl⟩)
    · rw [if_pos (by omega)]
      repeat refine zr_s rfl rfl rfl ?_
      exact zr_ret rfl (⟨rfl, rfl⟩)
  refine zf_of rfl (Nat.le_of_ble_eq_true rfl) ?_
  repeat refine zr_s rfl rfl rfl ?_
  refine zr_ald (i) rfl rfl rfl (by omega) (by decide) ?_
  repeat refine zr_s rfl rfl rfl ?_
  rw [x1]
  refine zr_ilt rfl (by omega) (by decide) (fun h => no (by omega)) (fun h => ?_)
  repeat refine zr_s rfl rfl rfl ?_
  refine zr_ald (j) rfl rfl rfl (by omega) (by decide) ?_
  repeat refine zr_s rfl rfl rfl ?_
  rw [y1]
  refine zr_ilt rfl (by omega) (by decide) (fun h2 => no (by omega)) (fun h2 => ?_)
  repeat refine zr_s rfl rfl rfl ?_
  refine zr_ald (i) rfl rfl rfl (by omega) (by decide) ?_
  repeat refine zr_s rfl rfl rfl ?_
  rw [x1]
  refine zr_ieq rfl (by omega) (by decide) (fun h3 => yes (by omega)) (fun h3 => ?_)
  repeat refine zr_s rfl rfl rfl ?_
  refine zr_ald (j) rfl rfl rfl (by omega) (by decide) ?_
  repeat refine zr_s rfl rfl rfl ?_
  rw [y1]
  refine zr_ine rfl (by omega) (by decide) (fun h4 => no (by omega)) (fun h4 => yes (by omega))
theorem sp_M_delayOf {i j : Nat} (hB : zBm M P) (hw : zWf P) (hi : i < pn P) (hj : j < pn P) : zf (zSh L) 5 kX8_delayOf [zvr 34, zvi i, zvi j] M (fun v M1 => v = some (.inl (zdv P i j 16)) ∧ M1 = M) := by
  have h60 := hw.1
  have hli := zpl_le hw hi
  have hlj := zpl_le hw hj
  have hov := zov_I hw hi hj
  have loop : ∀ (t r : Nat) (o : Option zV), r + t = 16 → zr (zSh L) 4 tX8_delayOf 10 [some (zvr 34), some (zvi i), some (zvi j), some (zvi (zdv P i j r)), some (zvi r), o] [] M (fun v M1 => v = some (.inl (zdv P i j 16)) ∧ M1 = M) := by
    intro t
    induction t with
    | zero =>
      intro r o hr
      repeat refine zr_s rfl rfl rfl ?_
      refine zr_ige rfl (by omega) (by decide) (fun h => ?_) (fun h => by omega)
      repeat refine zr_s rfl rfl rfl ?_
      refine zr_ret rfl ⟨by rw [show r = 16 by omega], rfl⟩
    | succ t ih =>
      intro r o hr
      have hdI := zdv_I hw hi hj r
      have nxt : ∀ (x : Int) (o : Option zV), x = zdv P i j (r + 1) → zr (zSh L) 4 tX8_delayOf 153 [some (zvr 34), some (zvi i), some (zvi j), some (zvi x), some (zvi r), o] [] M (fun v M1 => v = some (.inl (zdv P i j 16)) ∧ M1 = M) := by
        intro x o hx
        repeat refine zr_s rfl rfl rfl ?_
        refine zr_b rfl rfl ?_
        rw [hx]
        exact ih (r + 1) o (by omega)
      repeat refine zr_s rfl rfl rfl ?_
      refine zr_ige rfl (by omega) (by decide) (fun h => by omega) (fun h => ?_)
      repeat refine zr_s rfl rfl rfl ?_
      refine zr_cr rfl rfl rfl (zf_mono (Nat.le_of_ble_eq_true rfl) (sp_M_isWritten (a := i + 1) hB hw (by omega) (by omega) (by omega))) ?_
      cases hz : zwn P r (i + 1) j with
      | true =>
        rw [zb_t rfl]
        refine zr_zne rfl (by decide) (fun _ => ?_) (fun h => by cases h)
        refine nxt _ _ ?_
        have e1 : zan (zc1 P i j) (r + 1) = zan (zc1 P i j) r := by show (_ || zc1 P i j r) = _; unfold zc1; rw [hz]; simp
        have e2 : zan (zc2 P i j) (r + 1) = zan (zc2 P i j) r := by show (_ || zc2 P i j r) = _; unfold zc2; rw [hz]; simp
        have e3 : zan (zc3 P i j) (r + 1) = zan (zc3 P i j) r := by show (_ || zc3 P i j r) = _; unfold zc3; rw [hz]; simp
        unfold zdv
        rw [e1, e2, e3]
      | false =>
        rw [zb_f rfl]
        refine zr_zne rfl (by decide) (fun h => absurd rfl h) (fun _ => ?_)
        have e1 : zan (zc1 P i j) (r + 1) = (zan (zc1 P i j) r || (zwr P i r && zrd P j r)) := by show (_ || zc1 P i j r) = _; unfold zc1; rw [hz]; simp
        have e2 : zan (zc2 P i j) (r + 1) = (zan (zc2 P i j) r || (zrd P i r && zwr P j r)) := by show (_ || zc2 P i j r) = _; unfold zc2; rw [hz]; simp
        have e3 : zan (zc3 P i j) (r + 1) = (zan (zc3 P i j) r || (zwr P i r && zwr P j r)) := by show (_ || zc3 P i j r) = _; unfold zc3; rw [hz]; simp
        have hm := zmR_I hw (j := j) hi
        have third : ∀ (x : Int), x = max (max (zmR P i j) (if zan (zc1 P i j) (r + 1) = true then (pl P i : Int) else -1)) (max (if zan (zc2 P i j) (r + 1) = true then (0 : Int) else -1) (if zan (zc3 P i j) r = true then zov P i j else -1)) → zr (zSh L) 4 tX8_delayOf 91 [some (zvr 34), some (zvi i), some (zvi j), some (zvi x), some (zvi r), o] [] M (fun v M1 => v = some (.inl (zdv P i j 16)) ∧ M1 = M) := by
          intro x hx
          have hxI : -1 ≤ x ∧ x ≤ 12 := by
            rw [hx]
            split <;> split <;> split <;> omega
          have keep : (zwr P i r && zwr P j r) = false → x = zdv P i j (r + 1) := fun h => by
            rw [hx]
            unfold zdv
            rw [e3, h, Bool.or_false]
          repeat refine zr_s rfl rfl rfl ?_
          refine zr_cr rfl rfl rfl (zf_mono (Nat.le_of_ble_eq_true rfl) (sp_M_writes hB hw hi (by omega))) ?_
          cases ha : zwr P i r with
          | false =>
            rw [zb_f rfl]
            exact zr_zeq rfl (by decide) (fun _ => nxt _ _ (keep (by rw [ha]; rfl))) (fun h => absurd rfl h)
          | true =>
            rw [zb_t rfl]
            refine zr_zeq rfl (by decide) (fun h => by cases h) (fun _ => ?_)
            repeat refine zr_s rfl rfl rfl ?_
            refine zr_cr rfl rfl rfl (zf_mono (Nat.le_of_ble_eq_true rfl) (sp_M_writes hB hw hj (by omega))) ?_
            cases hb : zwr P j r with
            | false =>
              rw [zb_f rfl]
              exact zr_zeq rfl (by decide) (fun _ => nxt _ _ (keep (by rw [hb, Bool.and_false]))) (fun h => absurd rfl h)
            | true =>
              rw [zb_t rfl]
              refine zr_zeq rfl (by decide) (fun h => by cases h) (fun _ => ?_)
              have e3t : zan (zc3 P i j) (r + 1) = true := by rw [e3, ha, hb]; simp
              have fin : ∀ y : Int, y = max x (zov P i j) → y = zdv P i j (r + 1) := fun y hy => by
                rw [hy, hx]
                unfold zdv
                rw [e3t, if_pos rfl]
                split <;> split <;> split <;> omega
              repeat refine zr_s rfl rfl rfl ?_
              refine zr_cr rfl rfl rfl (zf_mono (Nat.le_of_ble_eq_true rfl) (sp_M_latencyOf hB hw hi)) ?_
              repeat refine zr_s rfl rfl rfl ?_
              refine zr_cr rfl rfl rfl (zf_mono (Nat.le_of_ble_eq_true rfl) (sp_M_latencyOf hB hw hj)) ?_
              repeat refine zr_s rfl rfl rfl ?_
              have last : ∀ y : Int, y = zov P i j → zr (zSh L) 4 tX8_delayOf 138 [some (zvr 34), some (zvi i), some (zvi j), some (zvi x), some (zvi r), some (zvi ((pl P i : Int) - pl P j + 1))] [zvi y] M (fun v M1 => v = some (.inl (zdv P i j 16)) ∧ M1 = M) := by
                intro y hy
                repeat refine zr_s rfl rfl rfl ?_
                refine zr_ile rfl (by omega) (by omega) (fun h2 => ?_) (fun h2 => ?_)
                · repeat refine zr_t 153 rfl rfl rfl rfl ?_
                  exact nxt _ _ (fin _ (by omega))
                · repeat refine zr_t 153 rfl rfl rfl rfl ?_
                  exact nxt _ _ (fin _ (by omega))
              refine zr_ige rfl (by omega) (by decide) (fun h2 => ?_) (fun h2 => ?_)
              · repeat refine zr_t 138 rfl rfl rfl rfl ?_
                exact last _ (by unfold zov; omega)
              · repeat refine zr_t 138 rfl rfl rfl rfl ?_
                exact last _ (by unfold zov; omega)
        have second : ∀ (x : Int), x = max (max (zmR P i j) (if zan (zc1 P i j) (r + 1) = true then (pl P i : Int) else -1)) (max (if zan (zc2 P i j) r = true then (0 : Int) else -1) (if zan (zc3 P i j) r = true then zov P i j else -1)) → zr (zSh L) 4 tX8_delayOf 65 [some (zvr 34), some (zvi i), some (zvi j), some (zvi x), some (zvi r), o] [] M (fun v M1 => v = some (.inl (zdv P i j 16)) ∧ M1 = M) := by
          intro x hx
          have hxI : -1 ≤ x ∧ x ≤ 12 := by
            rw [hx]
            split <;> split <;> split <;> omega
          have keep : (zrd P i r && zwr P j r) = false → x = max (max (zmR P i j) (if zan (zc1 P i j) (r + 1) = true then (pl P i : Int) else -1)) (max (if zan (zc2 P i j) (r + 1) = true then (0 : Int) else -1) (if zan (zc3 P i j) r = true then zov P i j else -1)) := fun h => by
            rw [hx, e2, h, Bool.or_false]
          repeat refine zr_s rfl rfl rfl ?_
          refine zr_cr rfl rfl rfl (zf_mono (Nat.le_of_ble_eq_true rfl) (sp_M_reads hB hw hi (by omega))) ?_
          cases ha : zrd P i r with
          | false =>
            rw [zb_f rfl]
            exact zr_zeq rfl (by decide) (fun _ => third _ (keep (by rw [ha]; rfl))) (fun h => absurd rfl h)
          | true =>
            rw [zb_t rfl]
            refine zr_zeq rfl (by decide) (fun h => by cases h) (fun _ => ?_)
            repeat refine zr_s rfl rfl rfl ?_
            refine zr_cr rfl rfl rfl (zf_mono (Nat.le_of_ble_eq_true rfl) (sp_M_writes hB hw hj (by omega))) ?_
            cases hb : zwr P j r with
            | false =>
              rw [zb_f rfl]
              exact zr_zeq rfl (by decide) (fun _ => third _ (keep (by rw [hb, Bool.and_false]))) (fun h => absurd rfl h)
            | true =>
              rw [zb_t rfl]
              refine zr_zeq rfl (by decide) (fun h => by cases h) (fun _ => ?_)
              have e2t : zan (zc2 P i j) (r + 1) = true := by rw [e2, ha, hb]; simp
              have fin : ∀ y : Int, y = max x 0 → y = max (max (zmR P i j) (if zan (zc1 P i j) (r + 1) = true then (pl P i : Int) else -1)) (max (if zan (zc2 P i j) (r + 1) = true then (0 : Int) else -1) (if zan (zc3 P i j) r = true then zov P i j else -1)) := fun y hy => by
                rw [hy, hx, e2t, if_pos rfl]
                split <;> split <;> split <;> omega
              repeat refine zr_s rfl rfl rfl ?_
              refine zr_zge rfl (by omega) (fun h2 => third _ (fin _ (by omega))) (fun h2 => ?_)
              repeat refine zr_t 91 rfl rfl rfl rfl ?_
              exact third _ (fin _ (by omega))
        have hx0 : zdv P i j r = max (max (zmR P i j) (if zan (zc1 P i j) r = true then (pl P i : Int) else -1)) (max (if zan (zc2 P i j) r = true then (0 : Int) else -1) (if zan (zc3 P i j) r = true then zov P i j else -1)) := rfl
        have keep : (zwr P i r && zrd P j r) = false → zdv P i j r = max (max (zmR P i j) (if zan (zc1 P i j) (r + 1) = true then (pl P i : Int) else -1)) (max (if zan (zc2 P i j) r = true then (0 : Int) else -1) (if zan (zc3 P i j) r = true then zov P i j else -1)) := fun h => by
          rw [hx0, e1, h, Bool.or_false]
        repeat refine zr_s rfl rfl rfl ?_
        refine zr_cr rfl rfl rfl (zf_mono (Nat.le_of_ble_eq_true rfl) (sp_M_writes hB hw hi (by omega))) ?_
        cases ha : zwr P i r with
        | false =>
          rw [zb_f rfl]
          exact zr_zeq rfl (by decide) (fun _ => second _ (keep (by rw [ha]; rfl))) (fun h => absurd rfl h)
        | true =>
          rw [zb_t rfl]
          refine zr_zeq rfl (by decide) (fun h => by cases h) (fun _ => ?_)
          repeat refine zr_s rfl rfl rfl ?_
          refine zr_cr rfl rfl rfl (zf_mono (Nat.le_of_ble_eq_true rfl) (sp_M_reads hB hw hj (by omega))) ?_
          cases hb : zrd P j r with
          | false =>
            rw [zb_f rfl]
            exact zr_zeq rfl (by decide) (fun _ => second _ (keep (by rw [hb, Bool.and_false]))) (fun h => absurd rfl h)
          | true =>
            rw [zb_t rfl]
            refine zr_zeq rfl (by decide) (fun h => by cases h) (fun _ => ?_)
            have e1t : zan (zc1 P i j) (r + 1) = true := by rw [e1, ha, hb]; simp
            have fin : ∀ y : Int, y = max (zdv P i j r) (pl P i) → y = max (max (zmR P i j) (if zan (zc1 P i j) (r + 1) = true then (pl P i : Int) else -1)) (max (if zan (zc2 P i j) r = true then (0 : Int) else -1) (if zan (zc3 P i j) r = true then zov P i j else -1)) := fun y hy => by
              rw [hy, hx0, e1t, if_pos rfl]
              split <;> split <;> split <;> omega
            repeat refine zr_s rfl rfl rfl ?_
            refine zr_cr rfl rfl rfl (zf_mono (Nat.le_of_ble_eq_true rfl) (sp_M_latencyOf hB hw hi)) ?_
            repeat refine zr_s rfl rfl rfl ?_
            refine zr_ile rfl (by omega) (by omega) (fun h2 => second _ (fin _ (by omega))) (fun h2 => ?_)
            repeat refine zr_s rfl rfl rfl ?_
            refine zr_cr rfl rfl rfl (zf_mono (Nat.le_of_ble_eq_true rfl) (sp_M_latencyOf hB hw hi)) ?_
            repeat refine zr_t 65 rfl rfl rfl rfl ?_
            exact second _ (fin _ (by omega))
  have h0 : zdv P i j 0 = zmR P i j := by
    have hm := zmR_I hw (j := j) hi
    show max (max (zmR P i j) (-1)) (max (-1) (-1)) = _
    omega
  refine zf_of rfl (Nat.le_of_ble_eq_true rfl) ?_
  repeat refine zr_s rfl rfl rfl ?_
  refine zr_cr rfl rfl rfl (zf_mono (Nat.le_of_ble_eq_true rfl) (sp_M_memoryDelay hB hw hi hj)) ?_
  repeat refine zr_t 10 rfl rfl rfl rfl ?_
  rw [← h0]
  exact loop 16 0 _ rfl
end ZX
