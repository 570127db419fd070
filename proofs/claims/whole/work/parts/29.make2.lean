/-! THE LIST PLAN, the whole making; IN ORDER as the class makes it -/
section ZX
variable {L : Nat} {M : zM} {P : zP}
theorem sp_makeL (hB : zBk M P) (hw : zWf P) (hD : zDl M P (pn P)) (hW : ∀ i, i < pn P → zI (M 11 i)) (hgo : ∀ k, k < pn P → zlb2 P (M 11) (zls P (M 11) k) ≠ -3) : zf (zSh L) 4 kX2_make [zvr 13] M (fun v M1 => v = none ∧ (∀ a, a < 14 ∨ 17 < a → M1 a = M a) ∧ (∀ i, i < pn P → M1 14 i = (zls P (M 11) (pn P)).1 i) ∧ ∀ i, i < pn P → M1 15 i = (zls P (M 11) (pn P)).2.1 i) := by
  have h60 := hw.1
  have hn := hB.1
  have hu := hB.2.1
  have hu8 := hw.2.2.1
  refine zf_of rfl (Nat.le_of_ble_eq_true rfl) ?_
  repeat refine zr_s rfl rfl rfl ?_
  refine zr_c rfl rfl rfl (zf_mono (Nat.le_of_ble_eq_true rfl) (sp_forgetCycles hB hw hD)) (fun v M1 hv => ?_)
  obtain ⟨rfl, g1, g2⟩ := hv
  repeat refine zr_t 10 rfl rfl rfl rfl ?_
  have loop : ∀ (k i : Nat) (o : Option zV) (N : zM), i + k = pn P → (∀ a, a < 14 ∨ 17 < a → N a = M a) → zLI N P (zls P (M 11) i).1 → (∀ q, q < i → N 15 q = (zls P (M 11) i).2.1 q) → zr (zSh L) 3 tX2_make 10 [some (zvr 13), some (zvi (zls P (M 11) i).2.2.1), some (zvi (zls P (M 11) i).2.2.2), some (zvi i), o] [] N (fun v M1 => v = none ∧ (∀ a, a < 14 ∨ 17 < a → M1 a = M a) ∧ (∀ i, i < pn P → M1 14 i = (zls P (M 11) (pn P)).1 i) ∧ ∀ i, i < pn P → M1 15 i = (zls P (M 11) (pn P)).2.1 i) := by
    intro k
    induction k with
    | zero =>
      intro i o N hi f1 f2 f3
      have hi2 : i = pn P := by omega
      subst hi2
      have hB1 : zBk N P := zBk_of hB (fun a h1 h2 => f1 a (by omega))
      have hn1 := hB1.1
      repeat refine zr_s rfl rfl rfl ?_
      refine zr_ige rfl (by omega) (by omega) (fun h => ?_) (fun h => by omega)
      repeat refine zr_s rfl rfl rfl ?_
      exact zr_retv rfl (⟨rfl, f1, f2.1, f3⟩)
    | succ k ih =>
      intro i o N hi f1 f2 f3
      have hB1 : zBk N P := zBk_of hB (fun a h1 h2 => f1 a (by omega))
      have hn1 := hB1.1
      have hu1 := hB1.2.1
      have hD1 : zDl N P (pn P) := fun q hq a ha => by rw [f1 10 (by omega)]; exact hD q hq a ha
      have e11 := f1 11 (by omega)
      have hok := zls_ok hw (M 11) i
      have hne := hgo i (by omega)
      have hstep := zlnext_eq P (M 11) i (zls P (M 11) i)
      rw [if_neg hne] at hstep
      have hstep : zls P (M 11) (i + 1) = _ := hstep
      generalize hs : zls P (M 11) i = s at hok hne hstep f2 f3 ⊢
      obtain ⟨o1, o2, o3, o4, o5, o6⟩ := hok
      have hf : ∀ q, q < pn P → -3 ≤ s.1 q ∧ s.1 q ≤ 1000 := fun q hq => by rcases o5 q hq with h | h <;> omega
      have hst := zfst_I hw (f := s.1) o1 (fun q hq => by rcases o5 q hq with h | h <;> omega) (pn P) (Nat.le_refl _)
      have hcc : 0 ≤ zlcc P (M 11) s ∧ zlcc P (M 11) s ≤ 1000 := by
        unfold zlcc
        split <;> omega
      have hqq : 0 ≤ zlqq P (M 11) s ∧ zlqq P (M 11) s ≤ 8 := by
        unfold zlqq
        split <;> omega
      have hWN : ∀ q, q < pn P → zI (N 11 q) := fun q hq => by rw [e11]; exact hW q hq
      have hb2 : ∃ x : Nat, zlb2 P (M 11) s = x ∧ x < pn P ∧ s.1 x = -3 := by
        have key : ∀ c, zbst P (M 11) s.1 c (pn P) ≠ -3 → ∃ x : Nat, zbst P (M 11) s.1 c (pn P) = x ∧ x < pn P ∧ s.1 x = -3 := by
          intro c hc
          rcases zbst_I P (M 11) s.1 c (pn P) with h | ⟨x, h1, h2, h3, -⟩
          · exact absurd h hc
          · unfold zfree at h3
            simp only [Bool.and_eq_true, decide_eq_true_eq] at h3
            exact ⟨x, h1, h2, h3.1⟩
        unfold zlb2 at hne ⊢
        split
        · rename_i h
          rw [if_pos h] at hne
          exact key _ hne
        · rename_i h
          unfold zlb1 at h ⊢
          split
          · rename_i h2
            rw [if_pos h2] at h
            exact key _ h
          · rename_i h2
            rw [if_neg h2] at h
            exact absurd rfl h
      -- behind the choice
      have fin : zr (zSh L) 3 tX2_make 66 [some (zvr 13), some (zvi (zlcc P (M 11) s)), some (zvi (zlqq P (M 11) s)), some (zvi i), some (zvi (zlb2 P (M 11) s))] [] N (fun v M1 => v = none ∧ (∀ a, a < 14 ∨ 17 < a → M1 a = M a) ∧ (∀ i, i < pn P → M1 14 i = (zls P (M 11) (pn P)).1 i) ∧ ∀ i, i < pn P → M1 15 i = (zls P (M 11) (pn P)).2.1 i) := by
        obtain ⟨x, hx1, hx2, hx3⟩ := hb2
        rw [hx1]
        repeat refine zr_s rfl rfl rfl ?_
        refine zr_ine rfl (by omega) (by decide) (fun h => ?_) (fun h => by omega)
        repeat refine zr_s rfl rfl rfl ?_
        refine zr_ast (i) rfl rfl rfl (by omega) (by decide) ?_
        have hB2 : zBk (zup N 15 i x) P := zBk_of hB1 (fun a h1 h2 => zup_row (by omega))
        have hD2 : zDl (zup N 15 i x) P (pn P) := fun q hq a ha => by rw [zup_row (by decide)]; exact hD1 q hq a ha
        have hL2 : zLI (zup N 15 i x) P s.1 := by
          unfold zLI
          rw [zup_row (a := 14) (by decide), zup_row (a := 16) (by decide), zup_row (a := 17) (by decide)]
          exact f2
        repeat refine zr_s rfl rfl rfl ?_
        refine zr_c rfl rfl rfl (zf_mono (Nat.le_of_ble_eq_true rfl) (sp_giveCycle hB2 hw hD2 hL2 hf hx2 hx3 (x := zlcc P (M 11) s) hcc)) (fun v M1 hv => ?_)
        obtain ⟨rfl, q1, q2⟩ := hv
        repeat refine zr_s rfl rfl rfl ?_
        refine zr_b rfl rfl ?_
        have h7 := ih (i + 1) (some (zvi x)) M1 (by omega) (fun a ha => by rw [q1 a (by omega), zup_row (by omega)]; exact f1 a ha)
        rw [hstep, hx1, Int.toNat_natCast] at h7
        refine h7 q2 (fun q hq => ?_)
        rw [q1 15 (by omega)]
        show zup N 15 i x 15 q = zfu s.2.1 i x q
        by_cases hqi : q = i
        · subst hqi
          rw [zup_at, zfu_at]
        · rw [zup_off hqi, zfu_off hqi]
          exact f3 q (by omega)
      have mid : ∀ b : Int, b = zlb1 P (M 11) s → zr (zSh L) 3 tX2_make 44 [some (zvr 13), some (zvi s.2.2.1), some (zvi s.2.2.2), some (zvi i), some (zvi b)] [] N (fun v M1 => v = none ∧ (∀ a, a < 14 ∨ 17 < a → M1 a = M a) ∧ (∀ i, i < pn P → M1 14 i = (zls P (M 11) (pn P)).1 i) ∧ ∀ i, i < pn P → M1 15 i = (zls P (M 11) (pn P)).2.1 i) := by
        intro b hb
        have hbI : zI b := by
          rw [hb]
          unfold zlb1
          split
          · rcases zbst_I P (M 11) s.1 s.2.2.1 (pn P) with h | ⟨x, h1, h2, -⟩
            · rw [h]; decide
            · rw [h1]
              exact ⟨by omega, by omega⟩
          · decide
        repeat refine zr_s rfl rfl rfl ?_
        refine zr_ine rfl hbI (by decide) (fun h => ?_) (fun h => ?_)
        · have e1 : zlcc P (M 11) s = s.2.2.1 := by unfold zlcc; rw [if_neg (by rw [← hb]; exact h)]
          have e2 : zlqq P (M 11) s = s.2.2.2 := by unfold zlqq; rw [if_neg (by rw [← hb]; exact h)]
          have e3 : zlb2 P (M 11) s = b := by unfold zlb2; rw [if_neg (by rw [← hb]; exact h), hb]
          rw [e1, e2, e3] at fin
          exact fin
        · have e1 : zlcc P (M 11) s = max (zfst P s.1 (pn P)) (s.2.2.1 + 1) := by unfold zlcc; rw [if_pos (by rw [← hb]; exact h)]
          have e2 : zlqq P (M 11) s = 0 := by unfold zlqq; rw [if_pos (by rw [← hb]; exact h)]
          have e3 : zlb2 P (M 11) s = zbst P (M 11) s.1 (zlcc P (M 11) s) (pn P) := by unfold zlb2; rw [if_pos (by rw [← hb]; exact h)]
          repeat refine zr_s rfl rfl rfl ?_
          refine zr_cr rfl rfl rfl (zf_mono (Nat.le_of_ble_eq_true rfl) (sp_firstPossibleBehind hB1 hw f2 hf (c := s.2.2.1) (by omega))) ?_
          rw [← e1]
          repeat refine zr_s rfl rfl rfl ?_
          refine zr_cr rfl rfl rfl (zf_mono (Nat.le_of_ble_eq_true rfl) (sp_bestFor hB1 hw f2 hf (c := zlcc P (M 11) s) (by omega) hWN)) ?_
          rw [e11, ← e3]
          repeat refine zr_t 66 rfl rfl rfl rfl ?_
          rw [e2] at fin
          exact fin
      repeat refine zr_s rfl rfl rfl ?_
      refine zr_ige rfl (by omega) (by omega) (fun h => by omega) (fun h => ?_)
      repeat refine zr_s rfl rfl rfl ?_
      refine zr_ige rfl (by omega) (by omega) (fun h2 => ?_) (fun h2 => ?_)
      · repeat refine zr_t 44 rfl rfl rfl rfl ?_
        exact mid (-3) (by unfold zlb1; rw [if_neg (by omega)])
      · repeat refine zr_s rfl rfl rfl ?_
        refine zr_cr rfl rfl rfl (zf_mono (Nat.le_of_ble_eq_true rfl) (sp_bestFor hB1 hw f2 hf (c := s.2.2.1) (by omega) hWN)) ?_
        rw [e11]
        repeat refine zr_t 44 rfl rfl rfl rfl ?_
        exact mid _ (by unfold zlb1; rw [if_pos (by omega)])
  refine loop (pn P) 0 _ M1 (by omega) (fun a ha => g1 a (by omega)) g2 (fun q hq => by omega)
end ZX
