/-! THE REFERENCE'S RUNS -/
def yRu (M : zM) (P : zP) (s : zRS) (B : Nat → Prop) : Prop := (∀ k, k < 16 → M 53 k = s.1 k) ∧ (∀ k, k < 64 → M 54 k = s.2.1 k) ∧ ∀ i, i < pn P → B i → M 56 i = s.2.2.1 i ∧ M 55 i = (if pK P i = 6 then 16 + s.2.2.2 i else (pT P i : Int)) ∧ (pK P i = 6 → 0 ≤ s.2.2.2 i ∧ s.2.2.2 i < 64)
section ZX
variable {L : Nat} {M : zM} {P : zP} {A : zA} {s : zRS} {B : Nat → Prop}
theorem sp_M_begin {i : Nat} (hB : zBm M P) (hw : zWf P) (hi : i < pn P) (hR : yRu M P s B) : zf (zSh L) 1 kX8_begin [zvr 34, zvi i] M (fun v M1 => v = none ∧ (∀ a, a ≠ 55 → a ≠ 56 → M1 a = M a) ∧ yRu M1 P (zbeg P s i) (fun j => B j ∨ j = i)) := by
  have h60 := hw.1
  obtain ⟨hk, ht, ha, hb, hc⟩ := hw.2.2.2.2 i hi
  obtain ⟨b1, b2, b3, b4⟩ := hB
  obtain ⟨x1, x2, x3, x4, x5⟩ := b4 i hi
  obtain ⟨R1, R2, R3⟩ := hR
  have hadr := zadr_I P s.1 i
  have fin : ∀ (tg r : Int) (o2 o3 : Option zV), tg = (if pK P i = 6 then 16 + zadr P s.1 i else (pT P i : Int)) → r = zres P s.1 s.2.1 i → zr (zSh L) 0 tX8_begin 258 [some (zvr 34), some (zvi i), o2, o3] [] (zup (zup M 55 i tg) 56 i r) (fun v M1 => v = none ∧ (∀ a, a ≠ 55 → a ≠ 56 → M1 a = M a) ∧ yRu M1 P (zbeg P s i) (fun j => B j ∨ j = i)) := by
    intro tg r o2 o3 htg hr
    refine zr_retv rfl ⟨rfl, fun a h1 h2 => by rw [zup_row h2, zup_row h1], by rw [zup_row (by decide), zup_row (by decide)]; exact R1, by rw [zup_row (by decide), zup_row (by decide)]; exact R2, fun j hj hBj => ?_⟩
    show _ = zfu s.2.2.1 i (zres P s.1 s.2.1 i) j ∧ _ = (if pK P j = 6 then 16 + zfu s.2.2.2 i (zadr P s.1 i) j else (pT P j : Int)) ∧ (pK P j = 6 → 0 ≤ zfu s.2.2.2 i (zadr P s.1 i) j ∧ zfu s.2.2.2 i (zadr P s.1 i) j < 64)
    rw [zup_row (show (55 : Nat) ≠ 56 by decide)]
    by_cases hji : j = i
    · subst hji
      rw [zup_at, zup_at, zfu_at, zfu_at]
      exact ⟨hr, htg, fun _ => hadr⟩
    · rw [zup_off hji, zup_off hji, zfu_off hji, zfu_off hji, zup_row (by decide)]
      exact R3 j hj (hBj.resolve_right hji)
  -- the result
  have sw : ∀ (tg : Int), tg = (if pK P i = 6 then 16 + zadr P s.1 i else (pT P i : Int)) → zr (zSh L) 0 tX8_begin 112 [some (zvr 34), some (zvi i), some (zvi (if pK P i = 0 then 0 else s.1 (pA P i))), some (zvi (if pK P i = 0 ∨ pK P i = 5 then 0 else s.1 (pB P i)))] [] (zup M 55 i tg) (fun v M1 => v = none ∧ (∀ a, a ≠ 55 → a ≠ 56 → M1 a = M a) ∧ yRu M1 P (zbeg P s i) (fun j => B j ∨ j = i)) := by
    intro tg htg
    have hK : pK P i = 0 ∨ pK P i = 1 ∨ pK P i = 2 ∨ pK P i = 3 ∨ pK P i = 4 ∨ pK P i = 5 ∨ pK P i = 6 := by omega
    repeat refine zr_s rfl rfl rfl ?_
    refine zr_ald (i) rfl rfl rfl (by omega) (by decide) ?_
    rw [zup_row (show (35 : Nat) ≠ 55 by decide), x1]
    rcases hK with h | h | h | h | h | h | h
    · rw [h]
      refine zr_tabIn 38 rfl (by decide) (by decide) (by decide) rfl ?_
      repeat refine zr_s rfl rfl rfl ?_
      refine zr_ald (i) rfl rfl rfl (by omega) (by decide) ?_
      rw [zup_row (show (39 : Nat) ≠ 55 by decide), x5]
      refine zr_ast (i) rfl rfl rfl (by omega) (by decide) ?_
      repeat refine zr_s rfl rfl rfl ?_
      exact fin tg _ _ _ htg (by unfold zres; rw [h]; rfl)
    · rw [h]
      refine zr_tabIn 53 rfl (by decide) (by decide) (by decide) rfl ?_
      repeat refine zr_s rfl rfl rfl ?_
      refine zr_ast (i) rfl rfl rfl (by omega) (by decide) ?_
      repeat refine zr_s rfl rfl rfl ?_
      exact fin tg _ _ _ htg (by unfold zres; rw [h]; rfl)
    · rw [h]
      refine zr_tabIn 65 rfl (by decide) (by decide) (by decide) rfl ?_
      repeat refine zr_s rfl rfl rfl ?_
      refine zr_ast (i) rfl rfl rfl (by omega) (by decide) ?_
      repeat refine zr_s rfl rfl rfl ?_
      exact fin tg _ _ _ htg (by unfold zres; rw [h]; rfl)
    · rw [h]
      refine zr_tabIn 77 rfl (by decide) (by decide) (by decide) rfl ?_
      repeat refine zr_s rfl rfl rfl ?_
      refine zr_ast (i) rfl rfl rfl (by omega) (by decide) ?_
      repeat refine zr_s rfl rfl rfl ?_
      exact fin tg _ _ _ htg (by unfold zres; rw [h]; rfl)
    · rw [h]
      refine zr_tabIn 89 rfl (by decide) (by decide) (by decide) rfl ?_
      repeat refine zr_s rfl rfl rfl ?_
      refine zr_ige_w rfl (fun h2 => ?_) (fun h2 => ?_)
      · repeat refine zr_s rfl rfl rfl ?_
        refine zr_ast (i) rfl rfl rfl (by omega) (by decide) ?_
        repeat refine zr_s rfl rfl rfl ?_
        exact fin tg _ _ _ htg (by unfold zres; rw [h]; exact (if_neg h2).symm)
      · repeat refine zr_s rfl rfl rfl ?_
        refine zr_ast (i) rfl rfl rfl (by omega) (by decide) ?_
        repeat refine zr_s rfl rfl rfl ?_
        exact fin tg _ _ _ htg (by unfold zres; rw [h]; exact (if_pos h2).symm)
    · rw [h]
      refine zr_tabIn 108 rfl (by decide) (by decide) (by decide) rfl ?_
      repeat refine zr_s rfl rfl rfl ?_
      refine zr_ald (i) rfl rfl rfl (by omega) (by decide) ?_
      rw [zup_row (show (39 : Nat) ≠ 55 by decide), x5]
      repeat refine zr_s rfl rfl rfl ?_
      rw [zand63w]
      have hz : zw ((if (5 : Nat) = 0 then 0 else s.1 (pA P i)) + pC P i) % 64 = ((zadr P s.1 i).toNat : Int) := by
        show zadr P s.1 i = _
        omega
      refine zr_ald ((zadr P s.1 i).toNat) rfl rfl hz (by omega) (by decide) ?_
      rw [zup_row (show (54 : Nat) ≠ 55 by decide), R2 _ (by omega)]
      refine zr_ast (i) rfl rfl rfl (by omega) (by decide) ?_
      repeat refine zr_s rfl rfl rfl ?_
      exact fin tg _ _ _ htg (by unfold zres; rw [h]; rfl)
    · rw [h]
      refine zr_tabOut rfl (by decide) (by decide) ?_
      repeat refine zr_s rfl rfl rfl ?_
      refine zr_ast (i) rfl rfl rfl (by omega) (by decide) ?_
      repeat refine zr_s rfl rfl rfl ?_
      exact fin tg _ _ _ htg (by unfold zres; rw [h]; rfl)
  -- the target
  have tg : zr (zSh L) 0 tX8_begin 72 [some (zvr 34), some (zvi i), some (zvi (if pK P i = 0 then 0 else s.1 (pA P i))), some (zvi (if pK P i = 0 ∨ pK P i = 5 then 0 else s.1 (pB P i)))] [] M (fun v M1 => v = none ∧ (∀ a, a ≠ 55 → a ≠ 56 → M1 a = M a) ∧ yRu M1 P (zbeg P s i) (fun j => B j ∨ j = i)) := by
    repeat refine zr_s rfl rfl rfl ?_
    refine zr_ald (i) rfl rfl rfl (by omega) (by decide) ?_
    repeat refine zr_s rfl rfl rfl ?_
    rw [x1]
    refine zr_ine rfl (by omega) (by decide) (fun h => ?_) (fun h => ?_)
    · repeat refine zr_s rfl rfl rfl ?_
      refine zr_ald (i) rfl rfl rfl (by omega) (by decide) ?_
      rw [x2 (by omega)]
      refine zr_ast (i) rfl rfl rfl (by omega) (by decide) ?_
      exact sw _ (by rw [if_neg (by omega)])
    · repeat refine zr_s rfl rfl rfl ?_
      refine zr_ald (i) rfl rfl rfl (by omega) (by decide) ?_
      rw [x5]
      repeat refine zr_t 111 rfl rfl rfl rfl ?_
      refine zr_ast (i) rfl rfl rfl (by omega) (by decide) ?_
      refine sw _ ?_
      have h6 : pK P i = 6 := by omega
      rw [zand63w, h6]
      rfl
  -- the second operand
  have snd : zr (zSh L) 0 tX8_begin 25 [some (zvr 34), some (zvi i), some (zvi (if pK P i = 0 then 0 else s.1 (pA P i))), none] [] M (fun v M1 => v = none ∧ (∀ a, a ≠ 55 → a ≠ 56 → M1 a = M a) ∧ yRu M1 P (zbeg P s i) (fun j => B j ∨ j = i)) := by
    have yes : pK P i ≠ 0 → pK P i ≠ 5 → zr (zSh L) 0 tX8_begin 56 [some (zvr 34), some (zvi i), some (zvi (if pK P i = 0 then 0 else s.1 (pA P i))), none] [] M (fun v M1 => v = none ∧ (∀ a, a ≠ 55 → a ≠ 56 → M1 a = M a) ∧ yRu M1 P (zbeg P s i) (fun j => B j ∨ j = i)) := fun h1 h2 => by
      have t := tg
      rw [if_neg (show ¬ (pK P i = 0 ∨ pK P i = 5) by omega)] at t
      repeat refine zr_s rfl rfl rfl ?_
      refine zr_ald (i) rfl rfl rfl (by omega) (by decide) ?_
      rw [x4 h1 h2]
      refine zr_ald (pB P i) rfl rfl rfl (by omega) (by decide) ?_
      rw [R1 _ hb]
      repeat refine zr_t 72 rfl rfl rfl rfl ?_
      exact t
    have six : (pK P i = 0 ∨ 4 < pK P i) → zr (zSh L) 0 tX8_begin 45 [some (zvr 34), some (zvi i), some (zvi (if pK P i = 0 then 0 else s.1 (pA P i))), none] [] M (fun v M1 => v = none ∧ (∀ a, a ≠ 55 → a ≠ 56 → M1 a = M a) ∧ yRu M1 P (zbeg P s i) (fun j => B j ∨ j = i)) := fun h => by
      repeat refine zr_s rfl rfl rfl ?_
      refine zr_ald (i) rfl rfl rfl (by omega) (by decide) ?_
      repeat refine zr_s rfl rfl rfl ?_
      rw [x1]
      refine zr_ine rfl (by omega) (by decide) (fun h2 => ?_) (fun h2 => yes (by omega) (by omega))
      have t := tg
      rw [if_pos (show (pK P i = 0 ∨ pK P i = 5) by omega)] at t
      repeat refine zr_t 72 rfl rfl rfl rfl ?_
      exact t
    repeat refine zr_s rfl rfl rfl ?_
    refine zr_ald (i) rfl rfl rfl (by omega) (by decide) ?_
    repeat refine zr_s rfl rfl rfl ?_
    rw [x1]
    refine zr_ilt rfl (by omega) (by decide) (fun h => six (by omega)) (fun h => ?_)
    repeat refine zr_s rfl rfl rfl ?_
    refine zr_ald (i) rfl rfl rfl (by omega) (by decide) ?_
    repeat refine zr_s rfl rfl rfl ?_
    rw [x1]
    refine zr_ile rfl (by omega) (by decide) (fun h2 => yes (by omega) (by omega)) (fun h2 => six (by omega))
  refine zf_of rfl (Nat.le_of_ble_eq_true rfl) ?_
  repeat refine zr_s rfl rfl rfl ?_
  refine zr_ald (i) rfl rfl rfl (by omega) (by decide) ?_
  rw [x1]
  refine zr_zne rfl (by omega) (fun h => ?_) (fun h => ?_)
  · have t := snd
    rw [if_neg (show ¬ pK P i = 0 by omega)] at t
    repeat refine zr_s rfl rfl rfl ?_
    refine zr_ald (i) rfl rfl rfl (by omega) (by decide) ?_
    rw [x3 (by omega)]
    refine zr_ald (pA P i) rfl rfl rfl (by omega) (by decide) ?_
    rw [R1 _ ha]
    repeat refine zr_t 25 rfl rfl rfl rfl ?_
    exact t
  · have t := snd
    rw [if_pos (show pK P i = 0 by omega)] at t
    repeat refine zr_t 25 rfl rfl rfl rfl ?_
    exact t
theorem sp_M_come {i : Nat} (hw : zWf P) (hi : i < pn P) (hR : yRu M P s B) (hBi : B i) : zf (zSh L) 1 kX8_come [zvr 34, zvi i] M (fun v M1 => v = none ∧ (∀ a, a ≠ 53 → a ≠ 54 → M1 a = M a) ∧ yRu M1 P (zcom P s i) B) := by
  have h60 := hw.1
  obtain ⟨hk, ht, ha, hb, hc⟩ := hw.2.2.2.2 i hi
  obtain ⟨R1, R2, R3⟩ := hR
  obtain ⟨e1, e2, e3⟩ := R3 i hi hBi
  refine zf_of rfl (Nat.le_of_ble_eq_true rfl) ?_
  repeat refine zr_s rfl rfl rfl ?_
  refine zr_ald (i) rfl rfl rfl (by omega) (by decide) ?_
  repeat refine zr_s rfl rfl rfl ?_
  rw [e2]
  unfold zcom
  by_cases h6 : pK P i = 6
  · have e3 := e3 h6
    rw [if_pos h6, if_pos h6]
    refine zr_ige rfl (by omega) (by decide) (fun h => ?_) (fun h => by omega)
    repeat refine zr_s rfl rfl rfl ?_
    refine zr_ald (i) rfl rfl rfl (by omega) (by decide) ?_
    repeat refine zr_s rfl rfl rfl ?_
    refine zr_ald (i) rfl rfl rfl (by omega) (by decide) ?_
    rw [e2, if_pos h6, e1]
    refine zr_ast ((s.2.2.2 i).toNat) rfl rfl (by omega) (by omega) (by decide) ?_
    refine zr_retv rfl ⟨rfl, fun a h1 h2 => zup_row h2, by rw [zup_row (by decide)]; exact R1, fun k hk => ?_, by rw [zup_row (by decide), zup_row (by decide)]; exact R3⟩
    show _ = zfu s.2.1 (s.2.2.2 i).toNat (s.2.2.1 i) k
    by_cases hki : k = (s.2.2.2 i).toNat
    · rw [hki, zup_at, zfu_at]
    · rw [zup_off hki, zfu_off hki]
      exact R2 k hk
  · rw [if_neg h6, if_neg h6]
    refine zr_ige rfl (by omega) (by decide) (fun h => by omega) (fun h => ?_)
    repeat refine zr_s rfl rfl rfl ?_
    refine zr_ald (i) rfl rfl rfl (by omega) (by decide) ?_
    repeat refine zr_s rfl rfl rfl ?_
    refine zr_ald (i) rfl rfl rfl (by omega) (by decide) ?_
    rw [e2, if_neg h6, e1]
    refine zr_ast (pT P i) rfl rfl rfl (by omega) (by decide) ?_
    repeat refine zr_s rfl rfl rfl ?_
    refine zr_retv rfl ⟨rfl, fun a h1 h2 => zup_row h1, fun k hk => ?_, by rw [zup_row (by decide)]; exact R2, by rw [zup_row (by decide), zup_row (by decide)]; exact R3⟩
    show _ = zfu s.1 (pT P i) (s.2.2.1 i) k
    by_cases hki : k = pT P i
    · rw [hki, zup_at, zfu_at]
    · rw [zup_off hki, zfu_off hki]
      exact R1 k hk
theorem yRu_mono {B2 : Nat → Prop} (h : yRu M P s B) (hB : ∀ i, i < pn P → B2 i → B i) : yRu M P s B2 := ⟨h.1, h.2.1, fun i hi hb => h.2.2 i hi (hB i hi hb)⟩
theorem sp_M_runBy {c ln : Nat} (hB : zBm M P) (hw : zWf P) (hc : (zSh L)[c]? = some (.inl 60)) (hc2 : c < 53) (hr : ∀ i, i < pn P → 0 ≤ M c i ∧ M c i ≤ 1000) (hln : ln ≤ 1012) (hR : yRu M P s (fun _ => False)) : zf (zSh L) 2 kX8_runBy [zvr 34, zvr c, zvi ln] M (fun v M1 => v = none ∧ (∀ a, a < 53 → M1 a = M a) ∧ ∃ B, yRu M1 P (zrn P (M c) s (ln + 1)) B) := by
  have h60 := hw.1
  have outer : ∀ (t y : Nat) (o4 : Option zV) (N : zM), y + t = ln + 1 → (∀ a, a < 53 → N a = M a) → yRu N P (zrn P (M c) s y) (fun i => M c i < y) → zr (zSh L) 1 tX8_runBy 2 [some (zvr 34), some (zvr c), some (zvi ln), some (zvi y), o4] [] N (fun v M1 => v = none ∧ (∀ a, a < 53 → M1 a = M a) ∧ ∃ B, yRu M1 P (zrn P (M c) s (ln + 1)) B) := by
    intro t
    induction t with
    | zero =>
      intro y o4 N hy hN hRy
      repeat refine zr_s rfl rfl rfl ?_
      refine zr_igt rfl (by omega) (by omega) (fun h => ?_) (fun h => by omega)
      have hyl : y = ln + 1 := by omega
      subst hyl
      exact zr_retv rfl ⟨rfl, hN, _, hRy⟩
    | succ t ih =>
      intro y o4 N hy hN hRy
      repeat refine zr_s rfl rfl rfl ?_
      refine zr_igt rfl (by omega) (by omega) (fun h => by omega) (fun h => ?_)
      -- who begins
      have beg : ∀ (u i : Nat) (N : zM), i + u = pn P → (∀ a, a < 53 → N a = M a) → yRu N P (zbm P (M c) y (zcm P (M c) y (zrn P (M c) s y) (pn P)) i) (fun j => M c j < y ∨ (M c j = y ∧ j < i)) → zr (zSh L) 1 tX8_runBy 49 [some (zvr 34), some (zvr c), some (zvi ln), some (zvi y), some (zvi i)] [] N (fun v M1 => v = none ∧ (∀ a, a < 53 → M1 a = M a) ∧ ∃ B, yRu M1 P (zrn P (M c) s (ln + 1)) B) := by
        intro u
        induction u with
        | zero =>
          intro i N hi hN hRi
          have hn : N 34 5 = pn P := by rw [hN 34 (by decide)]; exact hB.1
          repeat refine zr_s rfl rfl rfl ?_
          rw [hn]
          refine zr_ige rfl (by omega) (by omega) (fun h => ?_) (fun h => by omega)
          repeat refine zr_s rfl rfl rfl ?_
          refine zr_b rfl rfl ?_
          have hin : i = pn P := by omega
          subst hin
          exact ih (y + 1) _ N (by omega) hN (yRu_mono hRi (fun j hj hb => by omega))
        | succ u ihu =>
          intro i N hi hN hRi
          have hn : N 34 5 = pn P := by rw [hN 34 (by decide)]; exact hB.1
          have hBN : zBm N P := zBm_of hB (fun a h1 h2 => hN a (by omega))
          have hri := hr i (by omega)
          have bS : zbm P (M c) y (zcm P (M c) y (zrn P (M c) s y) (pn P)) (i + 1) = if M c i = y then zbeg P (zbm P (M c) y (zcm P (M c) y (zrn P (M c) s y) (pn P)) i) i else zbm P (M c) y (zcm P (M c) y (zrn P (M c) s y) (pn P)) i := rfl
          repeat refine zr_s rfl rfl rfl ?_
          rw [hn]
          refine zr_ige rfl (by omega) (by omega) (fun h => by omega) (fun h => ?_)
          repeat refine zr_s rfl rfl rfl ?_
          refine zr_ald i rfl hc rfl (by omega) (by decide) ?_
          rw [hN c hc2]
          repeat refine zr_s rfl rfl rfl ?_
          refine zr_ine rfl (by omega) (by omega) (fun h2 => ?_) (fun h2 => ?_)
          · repeat refine zr_s rfl rfl rfl ?_
            refine zr_b rfl rfl ?_
            refine ihu (i + 1) N (by omega) hN ?_
            rw [bS, if_neg h2]
            exact yRu_mono hRi (fun j hj hb => by
              by_cases hji : j = i
              · subst hji
                omega
              · omega)
          · repeat refine zr_s rfl rfl rfl ?_
            refine zr_c rfl rfl rfl (zf_mono (Nat.le_of_ble_eq_true rfl) (sp_M_begin hBN hw (by omega) hRi)) (fun v N2 hv => ?_)
            obtain ⟨rfl, q1, q2⟩ := hv
            repeat refine zr_s rfl rfl rfl ?_
            refine zr_b rfl rfl ?_
            refine ihu (i + 1) N2 (by omega) (fun a ha => by rw [q1 a (by omega) (by omega)]; exact hN a ha) ?_
            rw [bS, if_pos h2]
            exact yRu_mono q2 (fun j hj hb => by
              by_cases hji : j = i
              · exact Or.inr hji
              · left
                omega)
      -- what comes
      have com : ∀ (u i : Nat) (N : zM), i + u = pn P → (∀ a, a < 53 → N a = M a) → yRu N P (zcm P (M c) y (zrn P (M c) s y) i) (fun j => M c j < y) → zr (zSh L) 1 tX8_runBy 10 [some (zvr 34), some (zvr c), some (zvi ln), some (zvi y), some (zvi i)] [] N (fun v M1 => v = none ∧ (∀ a, a < 53 → M1 a = M a) ∧ ∃ B, yRu M1 P (zrn P (M c) s (ln + 1)) B) := by
        intro u
        induction u with
        | zero =>
          intro i N hi hN hRi
          have hn : N 34 5 = pn P := by rw [hN 34 (by decide)]; exact hB.1
          repeat refine zr_s rfl rfl rfl ?_
          rw [hn]
          refine zr_ige rfl (by omega) (by omega) (fun h => ?_) (fun h => by omega)
          repeat refine zr_t 49 rfl rfl rfl rfl ?_
          have hin : i = pn P := by omega
          subst hin
          exact beg (pn P) 0 N (by omega) hN (yRu_mono hRi (fun j hj hb => by omega))
        | succ u ihu =>
          intro i N hi hN hRi
          have hn : N 34 5 = pn P := by rw [hN 34 (by decide)]; exact hB.1
          have hBN : zBm N P := zBm_of hB (fun a h1 h2 => hN a (by omega))
          have hri := hr i (by omega)
          have hl := zpl_le hw (i := i) (by omega)
          have cS : zcm P (M c) y (zrn P (M c) s y) (i + 1) = if M c i + pl P i = y then zcom P (zcm P (M c) y (zrn P (M c) s y) i) i else zcm P (M c) y (zrn P (M c) s y) i := rfl
          repeat refine zr_s rfl rfl rfl ?_
          rw [hn]
          refine zr_ige rfl (by omega) (by omega) (fun h => by omega) (fun h => ?_)
          repeat refine zr_s rfl rfl rfl ?_
          refine zr_ald i rfl hc rfl (by omega) (by decide) ?_
          rw [hN c hc2]
          repeat refine zr_s rfl rfl rfl ?_
          refine zr_cr rfl rfl rfl (zf_mono (Nat.le_of_ble_eq_true rfl) (sp_M_latencyOf hBN hw (by omega))) ?_
          repeat refine zr_s rfl rfl rfl ?_
          refine zr_ine rfl (by omega) (by omega) (fun h2 => ?_) (fun h2 => ?_)
          · repeat refine zr_s rfl rfl rfl ?_
            refine zr_b rfl rfl ?_
            refine ihu (i + 1) N (by omega) hN ?_
            rw [cS, if_neg h2]
            exact hRi
          · repeat refine zr_s rfl rfl rfl ?_
            refine zr_c rfl rfl rfl (zf_mono (Nat.le_of_ble_eq_true rfl) (sp_M_come hw (by omega) hRi (by omega))) (fun v N2 hv => ?_)
            obtain ⟨rfl, q1, q2⟩ := hv
            repeat refine zr_s rfl rfl rfl ?_
            refine zr_b rfl rfl ?_
            refine ihu (i + 1) N2 (by omega) (fun a ha => by rw [q1 a (by omega) (by omega)]; exact hN a ha) ?_
            rw [cS, if_pos h2]
            exact q2
      repeat refine zr_t 10 rfl rfl rfl rfl ?_
      exact com (pn P) 0 N (by omega) hN hRy
  refine zf_of rfl (Nat.le_of_ble_eq_true rfl) ?_
  repeat refine zr_t 2 rfl rfl rfl rfl ?_
  exact outer (ln + 1) 0 _ M (by omega) (fun _ _ => rfl) (yRu_mono hR (fun i hi hb => by have := hr i hi; omega))
theorem zlen_ub {P : zP} (hw : zWf P) {f : Nat → Int} : ∀ m, m ≤ pn P → (∀ i, i < m → 0 ≤ f i ∧ f i ≤ 1000) → 0 ≤ zlen P f m ∧ zlen P f m ≤ 1012
  | 0, _, _ => ⟨Int.le_refl _, by show (0 : Int) ≤ 1012; omega⟩
  | m + 1, hm, h => by
    have h1 := zlen_ub hw m (by omega) (fun i hi => h i (by omega))
    have h2 := h m (by omega)
    have h3 := zpl_le hw (i := m) (by omega)
    show 0 ≤ max _ _ ∧ max _ _ ≤ (1012 : Int)
    omega
theorem zrn_len {P : zP} {w : Nat → Int} {s : zRS} {ln : Nat} (hl : zlen P w (pn P) = ln) (h : ln ≤ 1012) : zrn P w s (ln + 1) = zrn P w s 1013 := by
  refine (zrn_skip 1013 (by omega) (fun t h1 h2 i hi => ?_)).symm
  have := zlen_ge (P := P) (f := w) (pn P) hi
  have hp : (0 : Int) ≤ pl P i := by omega
  omega
theorem sp_M_run {h : Int} (hA : zMS M A) (hI : zI h) : zf (zSh L) 7 kX8_run [zvr 34, zvi h] M (fun v M1 => v = some (.inl (zs_run A h).1) ∧ zMS M1 (zs_run A h).2 ∧ zFM M M1) := by
  have hw := hA.1.2.1
  have h60 := hw.1
  have bad : (h < 0 ∨ 2 < h) → zr (zSh L) 6 tX8_run 9 [some (zvr 34), some (zvi h), none, none] [] M (fun v M1 => v = some (.inl (zs_run A h).1) ∧ zMS M1 (zs_run A h).2 ∧ zFM M M1) := fun hb => by
    repeat refine zr_s rfl rfl rfl ?_
    refine zr_ret rfl ?_
    unfold zs_run
    rw [if_neg (by omega), if_neg (by omega), if_neg (by omega)]
    exact ⟨rfl, hA, zFM_rf⟩
  refine zf_of rfl (Nat.le_of_ble_eq_true rfl) ?_
  repeat refine zr_s rfl rfl rfl ?_
  refine zr_zlt rfl hI (fun hh => bad (Or.inl hh)) (fun h0 => ?_)
  repeat refine zr_s rfl rfl rfl ?_
  refine zr_ile rfl hI (by decide) (fun h2 => ?_) (fun hh => bad (Or.inr (by omega)))
  repeat refine zr_s rfl rfl rfl ?_
  refine zr_c rfl rfl rfl (zf_mono (Nat.le_of_ble_eq_true rfl) (sp_workS hA)) (fun v M1 hv => ?_)
  obtain ⟨rfl, h9, hA1, hF⟩ := hv
  have hB := hA1.1.1
  obtain ⟨hI1, g2, g3, g4, g5, g6, g7, g8, g9⟩ := id hA1
  obtain ⟨k1, k2, k3, k4, k5, k6, k7, k8, k9⟩ := hA1.1.2.2.2 h9
  -- what a run leaves
  have keep : ∀ (N : zM) (z : zRS), (∀ a, a < 53 → N a = M1 a) → (∀ k, k < 16 → N 53 k = z.1 k) → (∀ k, k < 64 → N 54 k = z.2.1 k) → zMS N (zset A z) ∧ zFM M N := fun N z hN q1 q2 => ⟨⟨zMI_eq (fun q h1 h2 => hN q (by omega)) hI1, by rw [hN 48 (by decide)]; exact g2, by rw [hN 48 (by decide)]; exact g3, by rw [hN 34 (by decide)]; exact g4, by rw [hN 34 (by decide)]; exact g5, by rw [hN 51 (by decide)]; exact g6, by rw [hN 52 (by decide)]; exact g7, q1, q2⟩, fun a ha => by rw [hN a (by omega), hF a ha]⟩
  -- the run itself, with registers and memory as given
  have go : ∀ (N : zM) (o2 : Option zV), (h = 2 → (zver A.1 A.2.1).1 = 0 ∧ ∀ i, i < pn A.1 → M1 48 i ≠ -3) → (∀ a, a < 53 → N a = M1 a) → (∀ k, k < 16 → N 53 k = A.2.2.2.1.1 k) → (∀ k, k < 64 → N 54 k = A.2.2.2.1.2 k) → zr (zSh L) 6 tX8_run 83 [some (zvr 34), some (zvi h), o2, none] [] N (fun v M1 => v = some (.inl (zs_run A h).1) ∧ zMS M1 (zs_run A h).2 ∧ zFM M M1) := by
    intro N o2 hok hN e53 e54
    have hR0 : yRu N A.1 (zgo0 A) (fun _ => False) := ⟨e53, e54, fun _ _ z => z.elim⟩
    have hBN : zBm N A.1 := zBm_of hB (fun a h1 h2 => hN a (by omega))
    have byp : ∀ (c : Nat) (o3 : Option zV), (zSh L)[c]? = some (.inl 60) → c < 53 → (∀ i, i < pn A.1 → 0 ≤ M1 c i ∧ M1 c i ≤ 1000) → (zs_run A h = (zlen A.1 (M1 c) (pn A.1), zset A (zrn A.1 (M1 c) (zgo0 A) 1013))) → zr (zSh L) 6 tX8_run 139 [some (zvr 34), some (zvi h), some (zvr c), o3] [] N (fun v M1 => v = some (.inl (zs_run A h).1) ∧ zMS M1 (zs_run A h).2 ∧ zFM M M1) := by
      intro c o3 hc hc2 hr he
      have ec : N c = M1 c := hN c hc2
      have hlI := zlen_ub hw (f := M1 c) (pn A.1) (Nat.le_refl _) hr
      obtain ⟨ln, hln⟩ := Int.eq_ofNat_of_zero_le hlI.1
      repeat refine zr_s rfl rfl rfl ?_
      refine zr_cr rfl rfl rfl (zf_mono (Nat.le_of_ble_eq_true rfl) (sp_M_lengthOf (c := c) hBN hw hc (fun i hi => by rw [ec]; have := hr i hi; omega))) ?_
      rw [ec, hln]
      repeat refine zr_s rfl rfl rfl ?_
      refine zr_c rfl rfl rfl (zf_mono (Nat.le_of_ble_eq_true rfl) (sp_M_runBy hBN hw hc hc2 (fun i hi => by rw [ec]; exact hr i hi) (ln := ln) (by omega) hR0)) (fun v N2 hv => ?_)
      obtain ⟨rfl, q1, B, q2⟩ := hv
      rw [ec, zrn_len hln (by omega)] at q2
      repeat refine zr_s rfl rfl rfl ?_
      have hk := keep N2 (zrn A.1 (M1 c) (zgo0 A) 1013) (fun a ha => by rw [q1 a ha]; exact hN a ha) q2.1 q2.2.1
      refine zr_ret rfl ?_
      rw [he]
      exact ⟨by rw [hln], hk.1, hk.2⟩
    repeat refine zr_s rfl rfl rfl ?_
    refine zr_zne rfl hI (fun hne => ?_) (fun he0 => ?_)
    · repeat refine zr_s rfl rfl rfl ?_
      refine zr_ine rfl hI (by decide) (fun hne1 => ?_) (fun he1 => ?_)
      · have hh2 : h = 2 := by omega
        obtain ⟨o1, o2'⟩ := hok hh2
        repeat refine zr_t 139 rfl rfl rfl rfl ?_
        refine byp 48 _ rfl (by decide) (fun i hi => by have := g3 i hi; have := o2' i hi; omega) ?_
        unfold zs_run
        rw [if_neg (by omega), if_neg (by omega), if_pos hh2, if_pos o1, zlen_congr _ g2, zrn_congr g2]
      · repeat refine zr_t 139 rfl rfl rfl rfl ?_
        refine byp 44 _ rfl (by decide) (fun i hi => by rw [k4 i hi]; have := zcycI hw (zway A.1) i hi; omega) ?_
        unfold zs_run
        rw [if_neg (by omega), if_pos he1, zlen_congr _ k4, zrn_congr k4]
    · have loop : ∀ (u i : Nat) (N : zM), i + u = pn A.1 → (∀ a, a < 53 → N a = M1 a) → yRu N A.1 (zst A.1 (zgo0 A) i) (fun j => j < i) → zr (zSh L) 6 tX8_run 89 [some (zvr 34), some (zvi h), some (zvi i), none] [] N (fun v M1 => v = some (.inl (zs_run A h).1) ∧ zMS M1 (zs_run A h).2 ∧ zFM M M1) := by
        intro u
        induction u with
        | zero =>
          intro i N hi hN hRi
          have hn : N 34 5 = pn A.1 := by rw [hN 34 (by decide)]; exact hB.1
          have hBN : zBm N A.1 := zBm_of hB (fun a h1 h2 => hN a (by omega))
          repeat refine zr_s rfl rfl rfl ?_
          rw [hn]
          refine zr_ige rfl (by omega) (by omega) (fun h => ?_) (fun h => by omega)
          have e46 : N 46 = M1 46 := hN 46 (by decide)
          repeat refine zr_s rfl rfl rfl ?_
          refine zr_cr rfl rfl rfl (zf_mono (Nat.le_of_ble_eq_true rfl) (sp_M_lengthOf (c := 46) hBN hw rfl (fun i hi => by rw [e46, k6 i hi]; have := zio_I hw (ord := fun k => k) (fun k hk => hk) hi; omega))) ?_
          rw [e46, zlen_congr _ k6]
          have hin : i = pn A.1 := by omega
          subst hin
          have hk := keep N (zst A.1 (zgo0 A) (pn A.1)) hN hRi.1 hRi.2.1
          refine zr_ret rfl ?_
          unfold zs_run
          rw [if_pos he0]
          exact ⟨rfl, hk.1, hk.2⟩
        | succ u ihu =>
          intro i N hi hN hRi
          have hn : N 34 5 = pn A.1 := by rw [hN 34 (by decide)]; exact hB.1
          have hBN : zBm N A.1 := zBm_of hB (fun a h1 h2 => hN a (by omega))
          repeat refine zr_s rfl rfl rfl ?_
          rw [hn]
          refine zr_ige rfl (by omega) (by omega) (fun h => by omega) (fun h => ?_)
          repeat refine zr_s rfl rfl rfl ?_
          refine zr_c rfl rfl rfl (zf_mono (Nat.le_of_ble_eq_true rfl) (sp_M_begin hBN hw (by omega) hRi)) (fun v N2 hv => ?_)
          obtain ⟨rfl, q1, q2⟩ := hv
          repeat refine zr_s rfl rfl rfl ?_
          refine zr_c rfl rfl rfl (zf_mono (Nat.le_of_ble_eq_true rfl) (sp_M_come hw (by omega) q2 (Or.inr rfl))) (fun v N3 hv => ?_)
          obtain ⟨rfl, q3, q4⟩ := hv
          repeat refine zr_s rfl rfl rfl ?_
          refine zr_b rfl rfl ?_
          exact ihu (i + 1) N3 (by omega) (fun a ha => by rw [q3 a (by omega) (by omega), q1 a (by omega) (by omega)]; exact hN a ha) (yRu_mono q4 (fun j hj hb => by omega))
      repeat refine zr_t 89 rfl rfl rfl rfl ?_
      exact loop (pn A.1) 0 N (by omega) hN (yRu_mono hR0 (fun j hj hb => by omega))
  -- the memory is laid
  have mem : ∀ (u k : Nat) (N : zM), k + u = 64 → (h = 2 → (zver A.1 A.2.1).1 = 0 ∧ ∀ i, i < pn A.1 → M1 48 i ≠ -3) → (∀ a, a < 53 → N a = M1 a) → (∀ k, k < 16 → N 53 k = A.2.2.2.1.1 k) → (∀ q, q < k → N 54 q = A.2.2.2.1.2 q) → zr (zSh L) 6 tX8_run 59 [some (zvr 34), some (zvi h), some (zvi k), none] [] N (fun v M1 => v = some (.inl (zs_run A h).1) ∧ zMS M1 (zs_run A h).2 ∧ zFM M M1) := by
    intro u
    induction u with
    | zero =>
      intro k N hk hok hN e53 e54
      repeat refine zr_s rfl rfl rfl ?_
      refine zr_ige rfl (by omega) (by decide) (fun h => ?_) (fun h => by omega)
      exact go N _ hok hN e53 (fun q hq => e54 q (by omega))
    | succ u ihu =>
      intro k N hk hok hN e53 e54
      repeat refine zr_s rfl rfl rfl ?_
      refine zr_ige rfl (by omega) (by decide) (fun h => by omega) (fun h => ?_)
      repeat refine zr_s rfl rfl rfl ?_
      refine zr_ald (k) rfl rfl rfl (by omega) (by decide) ?_
      rw [hN 52 (by decide), g7 k (by omega)]
      refine zr_ast (k) rfl rfl rfl (by omega) (by decide) ?_
      repeat refine zr_s rfl rfl rfl ?_
      refine zr_b rfl rfl ?_
      refine ihu (k + 1) _ (by omega) hok (fun a ha => by rw [zup_row (by omega)]; exact hN a ha) (by rw [zup_row (by decide)]; exact e53) (fun q hq => ?_)
      by_cases hqk : q = k
      · rw [hqk, zup_at]
      · rw [zup_off hqk]
        exact e54 q (by omega)
  have reg : ∀ (u k : Nat) (N : zM), k + u = 16 → (h = 2 → (zver A.1 A.2.1).1 = 0 ∧ ∀ i, i < pn A.1 → M1 48 i ≠ -3) → (∀ a, a < 53 → N a = M1 a) → (∀ q, q < k → N 53 q = A.2.2.2.1.1 q) → zr (zSh L) 6 tX8_run 33 [some (zvr 34), some (zvi h), some (zvi k), none] [] N (fun v M1 => v = some (.inl (zs_run A h).1) ∧ zMS M1 (zs_run A h).2 ∧ zFM M M1) := by
    intro u
    induction u with
    | zero =>
      intro k N hk hok hN e53
      repeat refine zr_s rfl rfl rfl ?_
      refine zr_ige rfl (by omega) (by decide) (fun h => ?_) (fun h => by omega)
      repeat refine zr_t 59 rfl rfl rfl rfl ?_
      exact mem 64 0 N rfl hok hN (fun q hq => e53 q (by omega)) (fun q hq => by omega)
    | succ u ihu =>
      intro k N hk hok hN e53
      repeat refine zr_s rfl rfl rfl ?_
      refine zr_ige rfl (by omega) (by decide) (fun h => by omega) (fun h => ?_)
      repeat refine zr_s rfl rfl rfl ?_
      refine zr_ald (k) rfl rfl rfl (by omega) (by decide) ?_
      rw [hN 51 (by decide), g6 k (by omega)]
      refine zr_ast (k) rfl rfl rfl (by omega) (by decide) ?_
      repeat refine zr_s rfl rfl rfl ?_
      refine zr_b rfl rfl ?_
      refine ihu (k + 1) _ (by omega) hok (fun a ha => by rw [zup_row (by omega)]; exact hN a ha) (fun q hq => ?_)
      by_cases hqk : q = k
      · rw [hqk, zup_at]
      · rw [zup_off hqk]
        exact e53 q (by omega)
  repeat refine zr_s rfl rfl rfl ?_
  refine zr_ine rfl hI (by decide) (fun hne => ?_) (fun he2 => ?_)
  · repeat refine zr_t 33 rfl rfl rfl rfl ?_
    exact reg 16 0 M1 rfl (fun z => absurd z hne) (fun _ _ => rfl) (fun q hq => by omega)
  · repeat refine zr_s rfl rfl rfl ?_
    refine zr_c rfl rfl rfl (zf_mono (Nat.le_of_ble_eq_true rfl) (sp_lookF hA1 h9)) (fun v M2 hv => ?_)
    obtain ⟨rfl, e2, q1, q2, q3⟩ := hv
    have e2 := e2.symm
    subst e2
    refine zr_zle rfl (by omega) (fun hle => ?_) (fun hgt => ?_)
    · repeat refine zr_t 33 rfl rfl rfl rfl ?_
      exact reg 16 0 M1 rfl (fun _ => ⟨by omega, q3 (by omega)⟩) (fun _ _ => rfl) (fun q hq => by omega)
    · repeat refine zr_s rfl rfl rfl ?_
      refine zr_ret rfl ?_
      unfold zs_run
      rw [if_neg (by omega), if_neg (by omega), if_pos he2, if_neg (by omega)]
      exact ⟨rfl, hA1, hF⟩
end ZX
