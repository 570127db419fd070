/-! THE LIST PLAN, as the class makes it -/
def zfu (f : Nat → Int) (i : Nat) (x : Int) : Nat → Int := fun j => if j = i then x else f j
theorem zfu_at (f : Nat → Int) (i : Nat) (x : Int) : zfu f i x i = x := if_pos rfl
theorem zfu_off {f : Nat → Int} {i j : Nat} {x : Int} (h : j ≠ i) : zfu f i x j = f j := if_neg h
/-- how many of those on which j depends have no cycle -/
def zwt (P : zP) (f : Nat → Int) (j : Nat) : Nat → Nat
  | 0 => 0
  | i + 1 => zwt P f j i + if zdc P i j ≠ -3 ∧ f i = -3 then 1 else 0
/-- from which cycle on j may be -/
def zpf (P : zP) (f : Nat → Int) (j : Nat) : Int := zlc (fun i => zdc P i j) f j
def zfree (P : zP) (f : Nat → Int) (j : Nat) : Bool := decide (f j = -3) && decide (zwt P f j j = 0)
def zbst (P : zP) (W f : Nat → Int) (c : Int) : Nat → Int
  | 0 => -3
  | i + 1 => if zfree P f i = true ∧ zpf P f i ≤ c ∧ (zbst P W f c i = -3 ∨ W (zbst P W f c i).toNat < W i) then (i : Int) else zbst P W f c i
def zfst (P : zP) (f : Nat → Int) : Nat → Int
  | 0 => -3
  | i + 1 => if zfree P f i = true ∧ (zfst P f i = -3 ∨ zpf P f i < zfst P f i) then zpf P f i else zfst P f i
/-- cycles, order, cycle, how many in it -/
abbrev zLS : Type := (Nat → Int) × (Nat → Int) × Int × Int
def zlnext (P : zP) (W : Nat → Int) (k : Nat) (s : zLS) : zLS :=
  let b : Int := if s.2.2.2 < pu P then zbst P W s.1 s.2.2.1 (pn P) else -3
  let c : Int := if b = -3 then max (zfst P s.1 (pn P)) (s.2.2.1 + 1) else s.2.2.1
  let q : Int := if b = -3 then 0 else s.2.2.2
  let b2 : Int := if b = -3 then zbst P W s.1 c (pn P) else b
  if b2 = -3 then s else (zfu s.1 b2.toNat c, zfu s.2.1 k b2, c, q + 1)
def zls (P : zP) (W : Nat → Int) : Nat → zLS
  | 0 => (fun _ => -3, fun _ => 0, 0, 0)
  | k + 1 => zlnext P W k (zls P W k)
def zLI (M : zM) (P : zP) (f : Nat → Int) : Prop := (∀ i, i < pn P → M 14 i = f i) ∧ (∀ j, j < pn P → M 16 j = zwt P f j j) ∧ ∀ j, j < pn P → M 17 j = zpf P f j
theorem zwt_le (P : zP) (f : Nat → Int) (j : Nat) : ∀ m, zwt P f j m ≤ m
  | 0 => Nat.le_refl _
  | m + 1 => by
    have := zwt_le P f j m
    show zwt P f j m + (if zdc P m j ≠ -3 ∧ f m = -3 then 1 else 0) ≤ m + 1
    split <;> omega
theorem zbst_I (P : zP) (W f : Nat → Int) (c : Int) : ∀ m, zbst P W f c m = -3 ∨ ∃ b : Nat, zbst P W f c m = b ∧ b < m ∧ zfree P f b = true ∧ zpf P f b ≤ c
  | 0 => Or.inl rfl
  | m + 1 => by
    unfold zbst
    split
    · rename_i h
      exact Or.inr ⟨m, rfl, Nat.lt_succ_self m, h.1, h.2.1⟩
    · rcases zbst_I P W f c m with h | ⟨b, h1, h2, h3⟩
      · exact Or.inl h
      · exact Or.inr ⟨b, h1, by omega, h3⟩
theorem zpf_I {P : zP} (hw : zWf P) {f : Nat → Int} {c : Int} (hc : 0 ≤ c) {j : Nat} (hj : j < pn P) (hf : ∀ i, i < pn P → f i ≤ c) : 0 ≤ zpf P f j ∧ zpf P f j ≤ c + 12 :=
  zlc_I j hc (fun i hi => ⟨(zdc_I hw (by omega) hj).1, (zdc_I hw (by omega) hj).2, hf i (by omega)⟩)
theorem zfst_I {P : zP} (hw : zWf P) {f : Nat → Int} {c : Int} (hc : 0 ≤ c) (hf : ∀ i, i < pn P → f i ≤ c) : ∀ m, m ≤ pn P → -3 ≤ zfst P f m ∧ zfst P f m ≤ c + 12
  | 0, _ => by
    show (-3 : Int) ≤ -3 ∧ (-3 : Int) ≤ c + 12
    omega
  | m + 1, hm => by
    have h1 := zfst_I hw hc hf m (by omega)
    have h2 := zpf_I hw hc (j := m) (by omega) hf
    unfold zfst
    split <;> omega
/-- what stands through the making -/
def zlok2 (P : zP) (k : Nat) (s : zLS) : Prop := 0 ≤ s.2.2.1 ∧ s.2.2.1 ≤ 13 * k ∧ 0 ≤ s.2.2.2 ∧ s.2.2.2 ≤ pu P ∧ (∀ i, i < pn P → s.1 i = -3 ∨ (0 ≤ s.1 i ∧ s.1 i ≤ s.2.2.1)) ∧ ∀ i, 0 ≤ s.2.1 i ∧ s.2.1 i < pn P ∨ s.2.1 i = 0
theorem zlnext_ok {P : zP} (hw : zWf P) {W : Nat → Int} {k : Nat} {s : zLS} (h : zlok2 P k s) : zlok2 P (k + 1) (zlnext P W k s) := by
  obtain ⟨h1, h2, h3, h4, h5, h6⟩ := h
  have hu := hw.2.1
  have hf : ∀ i, i < pn P → s.1 i ≤ s.2.2.1 := fun i hi => by rcases h5 i hi with h | h <;> omega
  have hst := zfst_I hw h1 hf (pn P) (Nat.le_refl _)
  unfold zlnext
  simp only
  generalize hb : (if s.2.2.2 < pu P then zbst P W s.1 s.2.2.1 (pn P) else -3 : Int) = b
  have hbI : b = -3 ∨ ∃ q : Nat, b = q ∧ q < pn P := by
    rw [← hb]
    split
    · rcases zbst_I P W s.1 s.2.2.1 (pn P) with h | ⟨q, g1, g2, -⟩
      · exact Or.inl h
      · exact Or.inr ⟨q, g1, g2⟩
    · exact Or.inl rfl
  have hq : b ≠ -3 → s.2.2.2 < pu P := by
    intro hne
    rw [← hb] at hne
    by_cases hlt : s.2.2.2 < pu P
    · exact hlt
    · rw [if_neg hlt] at hne
      exact absurd rfl hne
  have fin : ∀ (c q b2 : Int), s.2.2.1 ≤ c → c ≤ 13 * ((k : Int) + 1) → 0 ≤ q → q < pu P → (b2 = -3 ∨ ∃ x : Nat, b2 = x ∧ x < pn P) → zlok2 P (k + 1) (if b2 = -3 then s else (zfu s.1 b2.toNat c, zfu s.2.1 k b2, c, q + 1)) := by
    intro c q b2 g1 g2 g3 g4 g5
    split
    · exact ⟨h1, by push_cast; omega, h3, h4, h5, h6⟩
    · rename_i hne
      rcases g5 with g5 | ⟨x, rfl, hx⟩
      · exact absurd g5 hne
      refine ⟨by show 0 ≤ c; omega, by push_cast; exact g2, by show 0 ≤ q + 1; omega, by show q + 1 ≤ pu P; omega, fun i hi => ?_, fun i => ?_⟩
      · by_cases hix : i = x
        · subst hix
          refine Or.inr ?_
          show 0 ≤ zfu s.1 (i : Int).toNat c i ∧ zfu s.1 (i : Int).toNat c i ≤ c
          rw [Int.toNat_natCast, zfu_at]
          omega
        · show zfu s.1 (x : Int).toNat c i = -3 ∨ 0 ≤ zfu s.1 (x : Int).toNat c i ∧ zfu s.1 (x : Int).toNat c i ≤ c
          rw [Int.toNat_natCast, zfu_off hix]
          rcases h5 i hi with h | h
          · exact Or.inl h
          · exact Or.inr (by omega)
      · by_cases hik : i = k
        · subst hik
          refine Or.inl ?_
          show 0 ≤ zfu s.2.1 i x i ∧ zfu s.2.1 i x i < pn P
          rw [zfu_at]
          omega
        · show 0 ≤ zfu s.2.1 k x i ∧ zfu s.2.1 k x i < pn P ∨ zfu s.2.1 k x i = 0
          rw [zfu_off hik]
          exact h6 i
  by_cases hb3 : b = -3
  · rw [if_pos hb3, if_pos hb3, if_pos hb3]
    refine fin _ _ _ (by omega) (by omega) (by omega) (by omega) ?_
    rcases zbst_I P W s.1 (max (zfst P s.1 (pn P)) (s.2.2.1 + 1)) (pn P) with h | ⟨q, g1, g2, -⟩
    · exact Or.inl h
    · exact Or.inr ⟨q, g1, g2⟩
  · have h7 := fin s.2.2.1 s.2.2.2 b (Int.le_refl _) (by omega) h3 (hq hb3) hbI
    simp only [if_neg hb3] at h7 ⊢
    exact h7
theorem zls_ok {P : zP} (hw : zWf P) (W : Nat → Int) : ∀ k, zlok2 P k (zls P W k)
  | 0 => by
    refine ⟨Int.le_refl _, Int.le_refl _, Int.le_refl _, ?_, fun i _ => Or.inl rfl, fun i => Or.inr rfl⟩
    show (0 : Int) ≤ pu P
    omega
  | k + 1 => zlnext_ok hw (zls_ok hw W k)
section ZX
variable {L : Nat} {M : zM} {P : zP} {f : Nat → Int}
theorem sp_isFreeL {i : Nat} (hw : zWf P) (hL : zLI M P f) (hf : ∀ i, i < pn P → -3 ≤ f i ∧ f i ≤ 1000) (hi : i < pn P) : zf (zSh L) 1 kX2_isFree [zvr 13, zvi i] M (fun v M1 => v = some (.inl (zb (zfree P f i))) ∧ M1 = M) := by
  have h60 := hw.1
  have h14 := hL.1 i hi
  have h16 := hL.2.1 i hi
  have hfi := hf i hi
  have hwt := zwt_le P f i i
  refine zf_of rfl (Nat.le_of_ble_eq_true rfl) ?_
  repeat refine zr_s rfl rfl rfl ?_
  refine zr_ald (i) rfl rfl rfl (by omega) (by decide) ?_
  rw [h14]
  repeat refine zr_s rfl rfl rfl ?_
  refine zr_ine rfl (by omega) (by decide) (fun h => ?_) (fun h => ?_)
  · repeat refine zr_s rfl rfl rfl ?_
    exact zr_retz rfl (by omega) (⟨by rw [zb_f (by simp [zfree, h])], rfl⟩)
  · repeat refine zr_s rfl rfl rfl ?_
    refine zr_ald (i) rfl rfl rfl (by omega) (by decide) ?_
    rw [h16]
    refine zr_zne rfl (by omega) (fun h2 => ?_) (fun h2 => ?_)
    · repeat refine zr_s rfl rfl rfl ?_
      exact zr_retz rfl (by omega) (⟨by rw [zb_f (by simp [zfree]; omega)], rfl⟩)
    · repeat refine zr_s rfl rfl rfl ?_
      exact zr_retz rfl (by omega) (⟨by rw [zb_t (by simp [zfree]; omega)], rfl⟩)
theorem sp_bestFor {c : Int} (hB : zBk M P) (hw : zWf P) (hL : zLI M P f) (hf : ∀ i, i < pn P → -3 ≤ f i ∧ f i ≤ 1000) (hc : 0 ≤ c ∧ c ≤ 2000) (hW : ∀ i, i < pn P → zI (M 11 i)) : zf (zSh L) 2 kX2_bestFor [zvr 13, zvi c] M (fun v M1 => v = some (.inl (zbst P (M 11) f c (pn P))) ∧ M1 = M) := by
  have h60 := hw.1
  have hn := hB.1
  refine zf_of rfl (Nat.le_of_ble_eq_true rfl) ?_
  repeat refine zr_t 5 rfl rfl rfl rfl ?_
  have loop : ∀ (k i : Nat), i + k = pn P → zr (zSh L) 1 tX2_bestFor 5 [some (zvr 13), some (zvi c), some (zvi (zbst P (M 11) f c i)), some (zvi i)] [] M (fun v M1 => v = some (.inl (zbst P (M 11) f c (pn P))) ∧ M1 = M) := by
    intro k
    induction k with
    | zero =>
      intro i hi
      repeat refine zr_s rfl rfl rfl ?_
      refine zr_ige rfl (by omega) (by omega) (fun h => ?_) (fun h => by omega)
      repeat refine zr_s rfl rfl rfl ?_
      exact zr_ret rfl (⟨by rw [show i = pn P by omega], rfl⟩)
    | succ k ih =>
      intro i hi
      have hbI : zbst P (M 11) f c i = -3 ∨ ∃ b : Nat, zbst P (M 11) f c i = b ∧ b < i := by
        rcases zbst_I P (M 11) f c i with h | ⟨b, h1, h2, -⟩
        · exact Or.inl h
        · exact Or.inr ⟨b, h1, h2⟩
      have hpf := zpf_I hw (f := f) (c := 1000) (by omega) (j := i) (by omega) (fun q hq => (hf q hq).2)
      have keep : ¬ (zfree P f i = true ∧ zpf P f i ≤ c ∧ (zbst P (M 11) f c i = -3 ∨ M 11 (zbst P (M 11) f c i).toNat < M 11 i)) → zr (zSh L) 1 tX2_bestFor 63 [some (zvr 13), some (zvi c), some (zvi (zbst P (M 11) f c i)), some (zvi i)] [] M (fun v M1 => v = some (.inl (zbst P (M 11) f c (pn P))) ∧ M1 = M) := by
        intro hne
        repeat refine zr_s rfl rfl rfl ?_
        refine zr_b rfl rfl ?_
        have e : zbst P (M 11) f c (i + 1) = zbst P (M 11) f c i := by
          show (if zfree P f i = true ∧ zpf P f i ≤ c ∧ (zbst P (M 11) f c i = -3 ∨ M 11 (zbst P (M 11) f c i).toNat < M 11 i) then _ else _) = _
          rw [if_neg hne]
        rw [← e]
        exact ih (i + 1) (by omega)
      have take : (zfree P f i = true ∧ zpf P f i ≤ c ∧ (zbst P (M 11) f c i = -3 ∨ M 11 (zbst P (M 11) f c i).toNat < M 11 i)) → zr (zSh L) 1 tX2_bestFor 61 [some (zvr 13), some (zvi c), some (zvi (zbst P (M 11) f c i)), some (zvi i)] [] M (fun v M1 => v = some (.inl (zbst P (M 11) f c (pn P))) ∧ M1 = M) := by
        intro hpo
        repeat refine zr_s rfl rfl rfl ?_
        refine zr_b rfl rfl ?_
        have e : zbst P (M 11) f c (i + 1) = i := by
          show (if zfree P f i = true ∧ zpf P f i ≤ c ∧ (zbst P (M 11) f c i = -3 ∨ M 11 (zbst P (M 11) f c i).toNat < M 11 i) then _ else _) = _
          rw [if_pos hpo]
        have h := ih (i + 1) (by omega)
        rw [e] at h
        exact h
      generalize zbst P (M 11) f c i = b at hbI keep take ⊢
      repeat refine zr_s rfl rfl rfl ?_
      refine zr_ige rfl (by omega) (by omega) (fun h => by omega) (fun h => ?_)
      repeat refine zr_s rfl rfl rfl ?_
      refine zr_cr rfl rfl rfl (zf_mono (Nat.le_of_ble_eq_true rfl) (sp_isFreeL hw hL hf (i := i) (by omega))) ?_
      cases hfr : zfree P f i with
      | false =>
        refine zr_zeq rfl (by decide) (fun h => ?_) (fun h => absurd rfl h)
        exact keep (fun z => by rw [hfr] at z; cases z.1)
      | true =>
        refine zr_zeq rfl (by decide) (fun h => by cases h) (fun h => ?_)
        repeat refine zr_s rfl rfl rfl ?_
        refine zr_ald (i) rfl rfl rfl (by omega) (by decide) ?_
        rw [hL.2.2 i (by omega)]
        repeat refine zr_s rfl rfl rfl ?_
        refine zr_igt rfl (by omega) (by omega) (fun h2 => ?_) (fun h2 => ?_)
        · exact keep (fun z => by omega)
        · rcases hbI with rfl | ⟨q, rfl, hq⟩
          · repeat refine zr_s rfl rfl rfl ?_
            refine zr_ieq rfl (by decide) (by decide) (fun _ => ?_) (fun h3 => absurd rfl h3)
            exact take ⟨hfr, h2, Or.inl rfl⟩
          · repeat refine zr_s rfl rfl rfl ?_
            refine zr_ieq rfl (by omega) (by decide) (fun h3 => by omega) (fun _ => ?_)
            repeat refine zr_s rfl rfl rfl ?_
            refine zr_ald (i) rfl rfl rfl (by omega) (by decide) ?_
            repeat refine zr_s rfl rfl rfl ?_
            refine zr_ald (q) rfl rfl rfl (by omega) (by decide) ?_
            refine zr_ile rfl (hW i (by omega)) (hW q (by omega)) (fun h3 => ?_) (fun h3 => ?_)
            · refine keep (fun z => ?_)
              have h4 := z.2.2
              rw [Int.toNat_natCast] at h4
              omega
            · exact take ⟨hfr, h2, Or.inr (by rw [Int.toNat_natCast]; exact h3)⟩
  exact loop (pn P) 0 (by omega)
theorem sp_firstPossibleBehind {c : Int} (hB : zBk M P) (hw : zWf P) (hL : zLI M P f) (hf : ∀ i, i < pn P → -3 ≤ f i ∧ f i ≤ 1000) (hc : 0 ≤ c ∧ c ≤ 2000) : zf (zSh L) 2 kX2_firstPossibleBehind [zvr 13, zvi c] M (fun v M1 => v = some (.inl (max (zfst P f (pn P)) (c + 1))) ∧ M1 = M) := by
  have h60 := hw.1
  have hn := hB.1
  refine zf_of rfl (Nat.le_of_ble_eq_true rfl) ?_
  repeat refine zr_t 5 rfl rfl rfl rfl ?_
  have loop : ∀ (k i : Nat), i + k = pn P → zr (zSh L) 1 tX2_firstPossibleBehind 5 [some (zvr 13), some (zvi c), some (zvi (zfst P f i)), some (zvi i)] [] M (fun v M1 => v = some (.inl (max (zfst P f (pn P)) (c + 1))) ∧ M1 = M) := by
    intro k
    induction k with
    | zero =>
      intro i hi
      have hst := zfst_I hw (f := f) (c := 1000) (by omega) (fun q hq => (hf q hq).2) i (by omega)
      repeat refine zr_s rfl rfl rfl ?_
      refine zr_ige rfl (by omega) (by omega) (fun h => ?_) (fun h => by omega)
      repeat refine zr_s rfl rfl rfl ?_
      refine zr_cr rfl rfl rfl (zf_mono (Nat.le_of_ble_eq_true rfl) (sp_max (by omega) (by omega))) ?_
      exact zr_ret rfl (⟨by rw [show i = pn P by omega], rfl⟩)
    | succ k ih =>
      intro i hi
      have hst := zfst_I hw (f := f) (c := 1000) (by omega) (fun q hq => (hf q hq).2) i (by omega)
      have hpf := zpf_I hw (f := f) (c := 1000) (by omega) (j := i) (by omega) (fun q hq => (hf q hq).2)
      have keep : ¬ (zfree P f i = true ∧ (zfst P f i = -3 ∨ zpf P f i < zfst P f i)) → zr (zSh L) 1 tX2_firstPossibleBehind 47 [some (zvr 13), some (zvi c), some (zvi (zfst P f i)), some (zvi i)] [] M (fun v M1 => v = some (.inl (max (zfst P f (pn P)) (c + 1))) ∧ M1 = M) := by
        intro hne
        repeat refine zr_s rfl rfl rfl ?_
        refine zr_b rfl rfl ?_
        have e : zfst P f (i + 1) = zfst P f i := by
          show (if zfree P f i = true ∧ (zfst P f i = -3 ∨ zpf P f i < zfst P f i) then _ else _) = _
          rw [if_neg hne]
        rw [← e]
        exact ih (i + 1) (by omega)
      have take : (zfree P f i = true ∧ (zfst P f i = -3 ∨ zpf P f i < zfst P f i)) → zr (zSh L) 1 tX2_firstPossibleBehind 40 [some (zvr 13), some (zvi c), some (zvi (zfst P f i)), some (zvi i)] [] M (fun v M1 => v = some (.inl (max (zfst P f (pn P)) (c + 1))) ∧ M1 = M) := by
        intro hpo
        repeat refine zr_s rfl rfl rfl ?_
        refine zr_ald (i) rfl rfl rfl (by omega) (by decide) ?_
        rw [hL.2.2 i (by omega)]
        repeat refine zr_s rfl rfl rfl ?_
        refine zr_b rfl rfl ?_
        have e : zfst P f (i + 1) = zpf P f i := by
          show (if zfree P f i = true ∧ (zfst P f i = -3 ∨ zpf P f i < zfst P f i) then _ else _) = _
          rw [if_pos hpo]
        have h := ih (i + 1) (by omega)
        rw [e] at h
        exact h
      repeat refine zr_s rfl rfl rfl ?_
      refine zr_ige rfl (by omega) (by omega) (fun h => by omega) (fun h => ?_)
      repeat refine zr_s rfl rfl rfl ?_
      refine zr_cr rfl rfl rfl (zf_mono (Nat.le_of_ble_eq_true rfl) (sp_isFreeL hw hL hf (i := i) (by omega))) ?_
      cases hfr : zfree P f i with
      | false =>
        refine zr_zeq rfl (by decide) (fun h => ?_) (fun h => absurd rfl h)
        exact keep (fun z => by rw [hfr] at z; cases z.1)
      | true =>
        refine zr_zeq rfl (by decide) (fun h => by cases h) (fun h => ?_)
        repeat refine zr_s rfl rfl rfl ?_
        refine zr_ieq rfl (by omega) (by decide) (fun h2 => ?_) (fun h2 => ?_)
        · exact take ⟨hfr, Or.inl h2⟩
        · repeat refine zr_s rfl rfl rfl ?_
          refine zr_ald (i) rfl rfl rfl (by omega) (by decide) ?_
          rw [hL.2.2 i (by omega)]
          repeat refine zr_s rfl rfl rfl ?_
          refine zr_ige rfl (by omega) (by omega) (fun h3 => ?_) (fun h3 => ?_)
          · exact keep (fun z => by omega)
          · exact take ⟨hfr, Or.inr h3⟩
  exact loop (pn P) 0 (by omega)
end ZX
