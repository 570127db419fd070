/-! THE LIST PLAN, made -/
def zlb1 (P : zP) (W : Nat → Int) (s : zLS) : Int := if s.2.2.2 < pu P then zbst P W s.1 s.2.2.1 (pn P) else -3
def zlcc (P : zP) (W : Nat → Int) (s : zLS) : Int := if zlb1 P W s = -3 then max (zfst P s.1 (pn P)) (s.2.2.1 + 1) else s.2.2.1
def zlqq (P : zP) (W : Nat → Int) (s : zLS) : Int := if zlb1 P W s = -3 then 0 else s.2.2.2
def zlb2 (P : zP) (W : Nat → Int) (s : zLS) : Int := if zlb1 P W s = -3 then zbst P W s.1 (zlcc P W s) (pn P) else zlb1 P W s
theorem zlnext_eq (P : zP) (W : Nat → Int) (k : Nat) (s : zLS) : zlnext P W k s = if zlb2 P W s = -3 then s else (zfu s.1 (zlb2 P W s).toNat (zlcc P W s), zfu s.2.1 k (zlb2 P W s), zlcc P W s, zlqq P W s + 1) := rfl
theorem zwt_fu {P : zP} {f : Nat → Int} {i j : Nat} {x : Int} (hf : f i = -3) (hx : 0 ≤ x) : ∀ m, zwt P (zfu f i x) j m + (if i < m ∧ zdc P i j ≠ -3 then 1 else 0) = zwt P f j m
  | 0 => by rw [if_neg (by omega)]; rfl
  | m + 1 => by
    have h := zwt_fu (P := P) (j := j) hf hx m
    show zwt P (zfu f i x) j m + (if zdc P m j ≠ -3 ∧ zfu f i x m = -3 then 1 else 0) + _ = zwt P f j m + (if zdc P m j ≠ -3 ∧ f m = -3 then 1 else 0)
    by_cases hm : m = i
    · subst hm
      rw [zfu_at, if_neg (fun z : zdc P m j ≠ -3 ∧ x = -3 => by omega)]
      rw [if_neg (by omega)] at h
      by_cases hd : zdc P m j ≠ -3
      · rw [if_pos ⟨by omega, hd⟩, if_pos ⟨hd, hf⟩]
        omega
      · rw [if_neg (fun z => hd z.2), if_neg (fun z => hd z.1)]
        omega
    · rw [zfu_off hm]
      by_cases hi : i < m ∧ zdc P i j ≠ -3
      · rw [if_pos hi] at h
        rw [if_pos (⟨by omega, hi.2⟩ : i < m + 1 ∧ zdc P i j ≠ -3)]
        omega
      · rw [if_neg hi] at h
        rw [if_neg (show ¬ (i < m + 1 ∧ zdc P i j ≠ -3) from fun z => hi ⟨by omega, z.2⟩)]
        omega
theorem zlc_fu {g f : Nat → Int} {i : Nat} {x : Int} (hf : f i = -3) (hx : 0 ≤ x) : ∀ m, zlc g (zfu f i x) m = if i < m ∧ g i ≠ -3 then max (zlc g f m) (x + g i) else zlc g f m
  | 0 => by rw [if_neg (by omega)]; rfl
  | m + 1 => by
    have h := zlc_fu (g := g) hf hx m
    show (if g m ≠ -3 ∧ 0 ≤ zfu f i x m then max (zlc g (zfu f i x) m) (zfu f i x m + g m) else zlc g (zfu f i x) m) = if i < m + 1 ∧ g i ≠ -3 then max (if g m ≠ -3 ∧ 0 ≤ f m then max (zlc g f m) (f m + g m) else zlc g f m) (x + g i) else (if g m ≠ -3 ∧ 0 ≤ f m then max (zlc g f m) (f m + g m) else zlc g f m)
    by_cases hm : m = i
    · subst hm
      rw [if_neg (by omega)] at h
      rw [zfu_at, h, if_neg (show ¬ (g m ≠ -3 ∧ 0 ≤ f m) by omega)]
      by_cases hd : g m ≠ -3
      · rw [if_pos ⟨hd, hx⟩, if_pos ⟨by omega, hd⟩]
      · rw [if_neg (fun z => hd z.1), if_neg (fun z => hd z.2)]
    · rw [zfu_off hm, h]
      by_cases hi : i < m ∧ g i ≠ -3
      · rw [if_pos hi, if_pos (⟨by omega, hi.2⟩ : i < m + 1 ∧ g i ≠ -3)]
        split <;> omega
      · rw [if_neg hi, if_neg (show ¬ (i < m + 1 ∧ g i ≠ -3) from fun z => hi ⟨by omega, z.2⟩)]
section ZX
variable {L : Nat} {M : zM} {P : zP} {f : Nat → Int}
theorem sp_giveCycle {i : Nat} {x : Int} (hB : zBk M P) (hw : zWf P) (hD : zDl M P (pn P)) (hL : zLI M P f) (hf : ∀ i, i < pn P → -3 ≤ f i ∧ f i ≤ 1000) (hi : i < pn P) (hfi : f i = -3) (hx : 0 ≤ x ∧ x ≤ 1000) : zf (zSh L) 3 kX2_giveCycle [zvr 13, zvi i, zvi x] M (fun v M1 => v = none ∧ (∀ a, a < 14 ∨ a = 15 ∨ 17 < a → M1 a = M a) ∧ zLI M1 P (zfu f i x)) := by
  have h60 := hw.1
  have hn := hB.1
  refine zf_of rfl (Nat.le_of_ble_eq_true rfl) ?_
  repeat refine zr_s rfl rfl rfl ?_
  refine zr_ast (i) rfl rfl rfl (by omega) (by decide) ?_
  repeat refine zr_t 11 rfl rfl rfl rfl ?_
  have loop : ∀ (k j : Nat) (o : Option zV) (N : zM), j + k = pn P → i < j → (∀ a, a < 14 ∨ a = 15 ∨ 17 < a → N a = M a) → (∀ q, q < pn P → N 14 q = zfu f i x q) → (∀ q, q < pn P → q < j → N 16 q = zwt P (zfu f i x) q q ∧ N 17 q = zpf P (zfu f i x) q) → (∀ q, q < pn P → j ≤ q → N 16 q = zwt P f q q ∧ N 17 q = zpf P f q) → zr (zSh L) 2 tX2_giveCycle 11 [some (zvr 13), some (zvi i), some (zvi x), some (zvi j), o] [] N (fun v M1 => v = none ∧ (∀ a, a < 14 ∨ a = 15 ∨ 17 < a → M1 a = M a) ∧ zLI M1 P (zfu f i x)) := by
    intro k
    induction k with
    | zero =>
      intro j o N hj hij f1 f2 f3 f4
      have hB1 : zBk N P := zBk_of hB (fun a h1 h2 => f1 a (by omega))
      have hn1 := hB1.1
      repeat refine zr_s rfl rfl rfl ?_
      refine zr_ige rfl (by omega) (by omega) (fun h => ?_) (fun h => by omega)
      repeat refine zr_s rfl rfl rfl ?_
      exact zr_retv rfl (⟨rfl, f1, f2, fun q hq => (f3 q hq (by omega)).1, fun q hq => (f3 q hq (by omega)).2⟩)
    | succ k ih =>
      intro j o N hj hij f1 f2 f3 f4
      have hB1 : zBk N P := zBk_of hB (fun a h1 h2 => f1 a (by omega))
      have hn1 := hB1.1
      have hD1 : zDl N P (pn P) := fun q hq a ha => by rw [f1 10 (by omega)]; exact hD q hq a ha
      have hz := zdc_I hw hi (j := j) (by omega)
      have hjn : j < pn P := by omega
      obtain ⟨e16, e17⟩ := f4 j (by omega) (Nat.le_refl _)
      have hwj := zwt_le P f j j
      have hpf := zpf_I hw (f := f) (c := 1000) (by omega) hjn (fun q hq => (hf q hq).2)
      have u1 := zwt_fu (P := P) (j := j) hfi hx.1 j
      have u2 := zlc_fu (g := fun a => zdc P a j) hfi hx.1 j
      have u2 : zpf P (zfu f i x) j = if i < j ∧ zdc P i j ≠ -3 then max (zpf P f j) (x + zdc P i j) else zpf P f j := u2
      repeat refine zr_s rfl rfl rfl ?_
      refine zr_ige rfl (by omega) (by omega) (fun h => by omega) (fun h => ?_)
      repeat refine zr_s rfl rfl rfl ?_
      refine zr_cr rfl rfl rfl (zf_mono (Nat.le_of_ble_eq_true rfl) (sp_between hw hD1 hi hjn)) ?_
      rw [if_pos hij]
      repeat refine zr_s rfl rfl rfl ?_
      refine zr_ieq rfl (by omega) (by decide) (fun h3 => ?_) (fun h3 => ?_)
      · repeat refine zr_s rfl rfl rfl ?_
        refine zr_b rfl rfl ?_
        rw [if_neg (fun z => z.2 h3)] at u1 u2
        refine ih (j + 1) _ N (by omega) (by omega) f1 f2 (fun q h1 h2 => ?_) (fun q h1 h2 => f4 q h1 (by omega))
        by_cases hq : q = j
        · subst hq
          exact ⟨by rw [e16]; omega, by rw [e17, u2]⟩
        · exact f3 q h1 (by omega)
      · rw [if_pos ⟨hij, h3⟩] at u1 u2
        repeat refine zr_s rfl rfl rfl ?_
        refine zr_ald (j) rfl rfl rfl (by omega) (by decide) ?_
        rw [e16]
        repeat refine zr_s rfl rfl rfl ?_
        refine zr_ast (j) rfl rfl rfl (by omega) (by decide) ?_
        repeat refine zr_s rfl rfl rfl ?_
        have e17b : zup N 16 j ((zwt P f j j : Int) - 1) 17 = N 17 := zup_row (by decide)
        refine zr_ald (j) rfl rfl rfl (by omega) (by decide) ?_
        rw [e17b, e17]
        repeat refine zr_s rfl rfl rfl ?_
        refine zr_cr rfl rfl rfl (zf_mono (Nat.le_of_ble_eq_true rfl) (sp_max (by omega) (by omega))) ?_
        refine zr_ast (j) rfl rfl rfl (by omega) (by decide) ?_
        repeat refine zr_s rfl rfl rfl ?_
        refine zr_b rfl rfl ?_
        refine ih (j + 1) _ _ (by omega) (by omega) (fun a ha => by rw [zup_row (by omega), zup_row (by omega)]; exact f1 a ha) (fun q hq => by rw [zup_row (by decide), zup_row (by decide)]; exact f2 q hq) (fun q h1 h2 => ?_) (fun q h1 h2 => ?_)
        · by_cases hq : q = j
          · subst hq
            rw [zup_row (a := 16) (by decide), zup_at, zup_at]
            exact ⟨by omega, u2.symm⟩
          · rw [zup_row (a := 16) (by decide), zup_off hq, zup_off hq, e17b]
            exact f3 q h1 (by omega)
        · rw [zup_row (a := 16) (by decide), zup_off (by omega), zup_off (by omega), e17b]
          exact f4 q h1 (by omega)
  refine loop (pn P - (i + 1)) (i + 1) _ (zup M 14 i x) (by omega) (by omega) (fun a ha => zup_row (by omega)) (fun q hq => ?_) (fun q h1 h2 => ?_) (fun q h1 h2 => ?_)
  · by_cases hqi : q = i
    · subst hqi
      rw [zup_at, zfu_at]
    · rw [zup_off hqi, zfu_off hqi]
      exact hL.1 q hq
  · have u1 := zwt_fu (P := P) (j := q) hfi hx.1 q
    have u2 := zlc_fu (g := fun a => zdc P a q) hfi hx.1 q
    rw [if_neg (by omega)] at u1 u2
    rw [zup_row (a := 16) (by decide), zup_row (a := 17) (by decide), hL.2.1 q h1, hL.2.2 q h1]
    exact ⟨by omega, u2.symm⟩
  · rw [zup_row (a := 16) (by decide), zup_row (a := 17) (by decide)]
    exact ⟨hL.2.1 q h1, hL.2.2 q h1⟩
theorem zpf_none {P : zP} {f : Nat → Int} (h : ∀ i, f i < 0) (g : Nat → Int) : ∀ m, zlc g f m = 0
  | 0 => rfl
  | m + 1 => by
    have h1 := h m
    show (if g m ≠ -3 ∧ 0 ≤ f m then _ else zlc g f m) = 0
    rw [if_neg (by omega)]
    exact zpf_none (P := P) h g m
theorem sp_forgetCycles (hB : zBk M P) (hw : zWf P) (hD : zDl M P (pn P)) : zf (zSh L) 3 kX2_forgetCycles [zvr 13] M (fun v M1 => v = none ∧ (∀ a, a < 14 ∨ a = 15 ∨ 17 < a → M1 a = M a) ∧ zLI M1 P (fun _ => -3)) := by
  have h60 := hw.1
  have hn := hB.1
  refine zf_of rfl (Nat.le_of_ble_eq_true rfl) ?_
  repeat refine zr_t 2 rfl rfl rfl rfl ?_
  have loop : ∀ (k j : Nat) (o : Option zV) (N : zM), j + k = pn P → (∀ a, a < 14 ∨ a = 15 ∨ 17 < a → N a = M a) → (∀ q, q < j → N 14 q = -3 ∧ N 16 q = zwt P (fun _ => -3) q q ∧ N 17 q = 0) → zr (zSh L) 2 tX2_forgetCycles 2 [some (zvr 13), some (zvi j), o] [] N (fun v M1 => v = none ∧ (∀ a, a < 14 ∨ a = 15 ∨ 17 < a → M1 a = M a) ∧ zLI M1 P (fun _ => -3)) := by
    intro k
    induction k with
    | zero =>
      intro j o N hj f1 f2
      have hB1 : zBk N P := zBk_of hB (fun a h1 h2 => f1 a (by omega))
      have hn1 := hB1.1
      repeat refine zr_s rfl rfl rfl ?_
      refine zr_ige rfl (by omega) (by omega) (fun h => ?_) (fun h => by omega)
      repeat refine zr_s rfl rfl rfl ?_
      exact zr_retv rfl (⟨rfl, f1, fun q hq => (f2 q (by omega)).1, fun q hq => (f2 q (by omega)).2.1, fun q hq => by rw [(f2 q (by omega)).2.2]; exact (zpf_none (P := P) (fun _ => by decide) _ q).symm⟩)
    | succ k ih =>
      intro j o N hj f1 f2
      have hB1 : zBk N P := zBk_of hB (fun a h1 h2 => f1 a (by omega))
      have hn1 := hB1.1
      have hjn : j < pn P := by omega
      repeat refine zr_s rfl rfl rfl ?_
      refine zr_ige rfl (by omega) (by omega) (fun h => by omega) (fun h => ?_)
      repeat refine zr_s rfl rfl rfl ?_
      refine zr_ast (j) rfl rfl rfl (by omega) (by decide) ?_
      repeat refine zr_s rfl rfl rfl ?_
      refine zr_ast (j) rfl rfl rfl (by omega) (by decide) ?_
      repeat refine zr_s rfl rfl rfl ?_
      refine zr_ast (j) rfl rfl rfl (by omega) (by decide) ?_
      repeat refine zr_t 37 rfl rfl rfl rfl ?_
      have inner : ∀ (r i : Nat) (N2 : zM), i + r = j → (∀ a, a < 14 ∨ a = 15 ∨ 17 < a → N2 a = M a) → (∀ q, q < j → N2 14 q = -3 ∧ N2 16 q = zwt P (fun _ => -3) q q ∧ N2 17 q = 0) → N2 14 j = -3 → N2 16 j = zwt P (fun _ => -3) j i → N2 17 j = 0 → zr (zSh L) 2 tX2_forgetCycles 37 [some (zvr 13), some (zvi j), some (zvi i)] [] N2 (fun v M1 => v = none ∧ (∀ a, a < 14 ∨ a = 15 ∨ 17 < a → M1 a = M a) ∧ zLI M1 P (fun _ => -3)) := by
        intro r
        induction r with
        | zero =>
          intro i N2 hi g1 g2 g3 g4 g5
          repeat refine zr_s rfl rfl rfl ?_
          refine zr_ige rfl (by omega) (by omega) (fun h => ?_) (fun h => by omega)
          repeat refine zr_s rfl rfl rfl ?_
          refine zr_b rfl rfl ?_
          refine ih (j + 1) _ N2 (by omega) g1 (fun q hq => ?_)
          by_cases hqj : q = j
          · subst hqj
            rw [show i = q by omega] at g4
            exact ⟨g3, g4, g5⟩
          · exact g2 q (by omega)
        | succ r ihr =>
          intro i N2 hi g1 g2 g3 g4 g5
          have hD2 : zDl N2 P (pn P) := fun q hq a ha => by rw [g1 10 (by omega)]; exact hD q hq a ha
          have hz := zdc_I hw (i := i) (j := j) (by omega) hjn
          have hwt := zwt_le P (fun _ => -3) j i
          repeat refine zr_s rfl rfl rfl ?_
          refine zr_ige rfl (by omega) (by omega) (fun h => by omega) (fun h => ?_)
          repeat refine zr_s rfl rfl rfl ?_
          refine zr_cr rfl rfl rfl (zf_mono (Nat.le_of_ble_eq_true rfl) (sp_between hw hD2 (i := i) (by omega) hjn)) ?_
          rw [if_pos (by omega)]
          repeat refine zr_s rfl rfl rfl ?_
          have e : ((zwt P (fun _ => -3) j (i + 1) : Nat) : Int) = zwt P (fun _ => -3) j i + if zdc P i j ≠ -3 then 1 else 0 := by
            show ((zwt P (fun _ => -3) j i + (if zdc P i j ≠ -3 ∧ (-3 : Int) = -3 then 1 else 0) : Nat) : Int) = _
            by_cases hd : zdc P i j ≠ -3
            · rw [if_pos ⟨hd, rfl⟩, if_pos hd]; omega
            · rw [if_neg (fun z => hd z.1), if_neg hd]; omega
          refine zr_ieq rfl (by omega) (by decide) (fun h3 => ?_) (fun h3 => ?_)
          · repeat refine zr_s rfl rfl rfl ?_
            refine zr_b rfl rfl ?_
            rw [if_neg (fun z => z h3)] at e
            exact ihr (i + 1) N2 (by omega) g1 g2 g3 (by omega) g5
          · rw [if_pos h3] at e
            repeat refine zr_s rfl rfl rfl ?_
            refine zr_ald (j) rfl rfl rfl (by omega) (by decide) ?_
            rw [g4]
            repeat refine zr_s rfl rfl rfl ?_
            refine zr_ast (j) rfl rfl rfl (by omega) (by decide) ?_
            repeat refine zr_s rfl rfl rfl ?_
            refine zr_b rfl rfl ?_
            refine ihr (i + 1) _ (by omega) (fun a ha => by rw [zup_row (by omega)]; exact g1 a ha) (fun q hq => ?_) (by rw [zup_row (by decide)]; exact g3) (by rw [zup_at]; omega) (by rw [zup_row (by decide)]; exact g5)
            rw [zup_row (a := 14) (by decide), zup_row (a := 17) (by decide), zup_off (by omega)]
            exact g2 q hq
      refine inner j 0 _ (by omega) (fun a ha => by rw [zup_row (by omega), zup_row (by omega), zup_row (by omega)]; exact f1 a ha) (fun q hq => ?_) ?_ ?_ ?_
      · rw [zup_row (a := 14) (by decide), zup_row (a := 14) (by decide), zup_off (by omega), zup_off (by omega), zup_row (a := 16) (by decide), zup_row (a := 16) (by decide), zup_row (a := 17) (by decide), zup_off (by omega), zup_row (a := 17) (by decide)]
        exact f2 q hq
      · rw [zup_row (a := 14) (by decide), zup_row (a := 14) (by decide), zup_at]
      · rw [zup_at]; rfl
      · rw [zup_row (a := 17) (by decide), zup_at]
  exact loop (pn P) 0 _ M (by omega) (fun _ _ => rfl) (fun q hq => by omega)
end ZX
