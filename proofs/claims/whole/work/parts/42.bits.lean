/-! THE TWO DELAYS ARE ONE: bits against registers -/
def zbt (x : Int32) (r : Nat) : Bool := x.toBitVec.getLsbD r
theorem zbt_and (x y : Int32) (r : Nat) : zbt (x &&& y) r = (zbt x r && zbt y r) := by
  unfold zbt
  rw [Int32.toBitVec_and, BitVec.getLsbD_and]
theorem zbt_or (x y : Int32) (r : Nat) : zbt (x ||| y) r = (zbt x r || zbt y r) := by
  unfold zbt
  rw [Int32.toBitVec_or, BitVec.getLsbD_or]
theorem zbt_not (x : Int32) {r : Nat} (hr : r < 32) : zbt (x ^^^ (-1)) r = !zbt x r := by
  unfold zbt
  have h : (-1 : Int32).toBitVec = BitVec.allOnes 32 := by decide
  rw [Int32.toBitVec_xor, BitVec.getLsbD_xor, h, BitVec.getLsbD_allOnes]
  simp [hr]
theorem zbt_0 (r : Nat) : zbt 0 r = false := by
  unfold zbt
  have h : (0 : Int32).toBitVec = 0#32 := by decide
  rw [h, BitVec.getLsbD_zero]
theorem zbt_zone' : ∀ t : Fin 16, ∀ r : Fin 32, zbt (zone t.val) r.val = decide (t.val = r.val) := by
  decide +kernel
theorem zbt_zone {t r : Nat} (ht : t < 16) (hr : r < 32) : zbt (zone t) r = decide (t = r) := zbt_zone' ⟨t, ht⟩ ⟨r, hr⟩
theorem zbt_ne {x : Int32} : x ≠ 0 ↔ ∃ r, r < 32 ∧ zbt x r = true := by
  constructor
  · intro h
    apply Classical.byContradiction
    intro hn
    apply h
    apply Int32.toBitVec_inj.mp
    apply BitVec.eq_of_getLsbD_eq
    intro r hr
    have h0 : (0 : Int32).toBitVec.getLsbD r = false := zbt_0 r
    rw [h0, ← Bool.not_eq_true]
    exact fun z => hn ⟨r, hr, z⟩
  · rintro ⟨r, -, h⟩ rfl
    rw [zbt_0] at h
    cases h
theorem zbt_W {P : zP} (hw : zWf P) {i r : Nat} (hi : i < pn P) (hr : r < 32) : zbt (zWm P i) r = zwr P i r := by
  obtain ⟨hk, ht, ha, hb, hc⟩ := hw.2.2.2.2 i hi
  unfold zWm zwr
  by_cases h : pK P i ≠ 6
  · rw [if_pos h, zbt_zone ht hr]
    simp [h]
  · rw [if_neg h, zbt_0]
    simp at h
    simp [h]
theorem zbt_R {P : zP} (hw : zWf P) {i r : Nat} (hi : i < pn P) (hr : r < 32) : zbt (zRm P i) r = zrd P i r := by
  obtain ⟨hk, ht, ha, hb, hc⟩ := hw.2.2.2.2 i hi
  unfold zRm zrd
  by_cases h : pK P i ≠ 0
  · rw [if_pos h]
    by_cases h5 : pK P i ≠ 5
    · rw [if_pos h5, zbt_or, zbt_or, zbt_0, zbt_zone ha hr, zbt_zone hb hr]
      simp [h, h5]
    · rw [if_neg h5, zbt_or, zbt_0, zbt_zone ha hr]
      simp at h5
      simp [h5]
  · rw [if_neg h, zbt_0]
    simp at h
    simp [h]
theorem zbt_Wb {P : zP} (hw : zWf P) {j r : Nat} (hj : j < pn P) (hr : r < 32) : ∀ m, m ≤ j → (zbt (zWb P j m) r = true ↔ ∃ k, j - m ≤ k ∧ k < j ∧ zwr P k r = true)
  | 0, _ => by
    show zbt 0 r = true ↔ _
    rw [zbt_0]
    constructor
    · intro h
      cases h
    · rintro ⟨k, h1, h2, -⟩
      omega
  | m + 1, hm => by
    show zbt (zWb P j m ||| zWm P (j - 1 - m)) r = true ↔ _
    rw [zbt_or, Bool.or_eq_true, zbt_Wb hw hj hr m (by omega), zbt_W hw (by omega) hr]
    constructor
    · rintro (⟨k, h1, h2, h3⟩ | h)
      · exact ⟨k, by omega, h2, h3⟩
      · exact ⟨j - 1 - m, by omega, by omega, h⟩
    · rintro ⟨k, h1, h2, h3⟩
      by_cases h : k = j - 1 - m
      · exact Or.inr (h ▸ h3)
      · exact Or.inl ⟨k, by omega, h2, h3⟩
theorem zbt_Wn {P : zP} (hw : zWf P) {i j r : Nat} (hij : i < j) (hj : j < pn P) (hr : r < 32) : zbt (zWb P j (j - 1 - i)) r = zwn P r (i + 1) j := by
  rw [Bool.eq_iff_iff, zbt_Wb hw hj hr _ (by omega), zwn_iff, show j - (j - 1 - i) = i + 1 by omega]
theorem zwr_lt {P : zP} (hw : zWf P) {i r : Nat} (hi : i < pn P) (h : zwr P i r = true) : r < 16 := by
  have := (hw.2.2.2.2 i hi).2.1
  unfold zwr at h
  rw [decide_eq_true_eq] at h
  omega
theorem zdr_eq {P : zP} (hw : zWf P) {i j : Nat} (hij : i < j) (hj : j < pn P) : zdv P i j 16 = if zdc P i j = -3 then -1 else zdc P i j := by
  have hi : i < pn P := by omega
  obtain ⟨hk, ht, ha, hb, hc⟩ := hw.2.2.2.2 i hi
  obtain ⟨hk', ht', ha', hb', hc'⟩ := hw.2.2.2.2 j hj
  have hli := zpl_le hw hi
  have hlj := zpl_le hw hj
  have hov := zov_I hw hi hj
  have q1 : (zRm P j &&& zWm P i &&& (zWb P j (j - 1 - i) ^^^ (-1)) ≠ 0) ↔ zan (zc1 P i j) 16 = true := by
    rw [zbt_ne, zan_iff]
    constructor
    · rintro ⟨r, h1, h2⟩
      rw [zbt_and, zbt_and, zbt_not _ h1, zbt_R hw hj h1, zbt_W hw hi h1, zbt_Wn hw hij hj h1, Bool.and_eq_true, Bool.and_eq_true] at h2
      refine ⟨r, zwr_lt hw hi h2.1.2, ?_⟩
      unfold zc1
      rw [h2.1.1, h2.1.2, h2.2]
      rfl
    · rintro ⟨r, h1, h2⟩
      unfold zc1 at h2
      rw [Bool.and_eq_true, Bool.and_eq_true] at h2
      refine ⟨r, by omega, ?_⟩
      rw [zbt_and, zbt_and, zbt_not _ (by omega), zbt_R hw hj (by omega), zbt_W hw hi (by omega), zbt_Wn hw hij hj (by omega), h2.1, h2.2.1, h2.2.2]
      rfl
  have q2 : (zWm P j &&& zRm P i &&& (zWb P j (j - 1 - i) ^^^ (-1)) ≠ 0) ↔ zan (zc2 P i j) 16 = true := by
    rw [zbt_ne, zan_iff]
    constructor
    · rintro ⟨r, h1, h2⟩
      rw [zbt_and, zbt_and, zbt_not _ h1, zbt_R hw hi h1, zbt_W hw hj h1, zbt_Wn hw hij hj h1, Bool.and_eq_true, Bool.and_eq_true] at h2
      refine ⟨r, zwr_lt hw hj h2.1.1, ?_⟩
      unfold zc2
      rw [h2.1.1, h2.1.2, h2.2]
      rfl
    · rintro ⟨r, h1, h2⟩
      unfold zc2 at h2
      rw [Bool.and_eq_true, Bool.and_eq_true] at h2
      refine ⟨r, by omega, ?_⟩
      rw [zbt_and, zbt_and, zbt_not _ (by omega), zbt_R hw hi (by omega), zbt_W hw hj (by omega), zbt_Wn hw hij hj (by omega), h2.1, h2.2.1, h2.2.2]
      rfl
  have q3 : (zWm P j &&& zWm P i &&& (zWb P j (j - 1 - i) ^^^ (-1)) ≠ 0) ↔ zan (zc3 P i j) 16 = true := by
    rw [zbt_ne, zan_iff]
    constructor
    · rintro ⟨r, h1, h2⟩
      rw [zbt_and, zbt_and, zbt_not _ h1, zbt_W hw hi h1, zbt_W hw hj h1, zbt_Wn hw hij hj h1, Bool.and_eq_true, Bool.and_eq_true] at h2
      refine ⟨r, zwr_lt hw hj h2.1.1, ?_⟩
      unfold zc3
      rw [h2.1.1, h2.1.2, h2.2]
      rfl
    · rintro ⟨r, h1, h2⟩
      unfold zc3 at h2
      rw [Bool.and_eq_true, Bool.and_eq_true] at h2
      refine ⟨r, by omega, ?_⟩
      rw [zbt_and, zbt_and, zbt_not _ (by omega), zbt_W hw hi (by omega), zbt_W hw hj (by omega), zbt_Wn hw hij hj (by omega), h2.1, h2.2.1, h2.2.2]
      rfl
  have q4 : zap P i j (zWb P j (j - 1 - i) ||| zWm P i) = false ↔ (pA P i ≠ pA P j ∨ zwn P (pA P i) i j = true ∨ pC P i % 64 = pC P j % 64) := by
    have qa : ((zWb P j (j - 1 - i) ||| zWm P i) &&& zone (pA P i) = 0) ↔ ¬ zwn P (pA P i) i j = true := by
      rw [← Decidable.not_iff_not, Decidable.not_not]
      show (_ ≠ _) ↔ _
      rw [zbt_ne, zwn_iff]
      constructor
      · rintro ⟨r, h1, h2⟩
        rw [zbt_and, zbt_or, zbt_zone ha h1, zbt_W hw hi h1, zbt_Wn hw hij hj h1, Bool.and_eq_true, Bool.or_eq_true, decide_eq_true_eq] at h2
        rcases h2.1 with h | h
        · obtain ⟨k, k1, k2, k3⟩ := zwn_iff.mp h
          exact ⟨k, by omega, k2, by rw [h2.2]; exact k3⟩
        · exact ⟨i, Nat.le_refl _, hij, by rw [h2.2]; exact h⟩
      · rintro ⟨k, k1, k2, k3⟩
        refine ⟨pA P i, by omega, ?_⟩
        rw [zbt_and, zbt_or, zbt_zone ha (by omega), zbt_W hw hi (by omega), zbt_Wn hw hij hj (by omega), Bool.and_eq_true, Bool.or_eq_true, decide_eq_true_eq]
        refine ⟨?_, rfl⟩
        by_cases h : k = i
        · exact Or.inr (h ▸ k3)
        · exact Or.inl (zwn_iff.mpr ⟨k, by omega, k2, k3⟩)
    unfold zap
    rw [← Bool.not_eq_true, Bool.and_eq_true, Bool.and_eq_true, decide_eq_true_eq, decide_eq_true_eq, decide_eq_true_eq, qa]
    by_cases u1 : pA P i = pA P j <;> by_cases u2 : zwn P (pA P i) i j = true <;> by_cases u3 : pC P i % 64 = pC P j % 64 <;> simp [u1, u2, u3]
  have hrg : zrg P i j (zWb P j (j - 1 - i) ^^^ (-1)) = (let d1 : Int := if zan (zc1 P i j) 16 = true then pl P i else -3
      let d2 : Int := if zan (zc2 P i j) 16 = true then max d1 0 else d1
      if zan (zc3 P i j) 16 = true then max d2 (zov P i j) else d2) := by
    unfold zrg zov
    simp only [q1, q2, q3]
  have hmm : zmm P i j (zWb P j (j - 1 - i)) = if zmR P i j = -1 then -3 else zmR P i j := by
    unfold zmm zmR
    by_cases hc : 5 ≤ pK P i ∧ 5 ≤ pK P j ∧ (pK P i = 6 ∨ pK P j = 6) ∧ (pA P i ≠ pA P j ∨ zwn P (pA P i) i j = true ∨ pC P i % 64 = pC P j % 64)
    · rw [if_pos ⟨hc.1, hc.2.1, hc.2.2.1, q4.mpr hc.2.2.2⟩, if_pos hc]
      have hcc := hc.2.2.1
      have hc5 := hc.1
      have hc6 := hc.2.1
      (repeat' split) <;> omega
    · rw [if_neg (fun z => hc ⟨z.1, z.2.1, z.2.2.1, q4.mp z.2.2.2⟩), if_neg hc, if_pos rfl]
  have hmR := zmR_I hw (j := j) hi
  have key : ∀ (c1 c2 c3 : Bool) (m l o : Int), -1 ≤ m → m ≤ 12 → 1 ≤ l → 1 ≤ o → max (max m (if c1 = true then l else -1)) (max (if c2 = true then (0 : Int) else -1) (if c3 = true then o else -1)) = if (max (let d1 : Int := if c1 = true then l else -3; let d2 : Int := if c2 = true then max d1 0 else d1; if c3 = true then max d2 o else d2) (if m = -1 then -3 else m)) = -3 then -1 else max (let d1 : Int := if c1 = true then l else -3; let d2 : Int := if c2 = true then max d1 0 else d1; if c3 = true then max d2 o else d2) (if m = -1 then -3 else m) := by
    intro c1 c2 c3 m l o h1 h2 h3 h4
    cases c1 <;> cases c2 <;> cases c3 <;> simp <;> (repeat' split) <;> omega
  unfold zdc
  rw [hrg, hmm]
  unfold zdv
  exact key _ _ _ _ _ _ hmR.1 hmR.2 (by omega) (by omega)
