/-! THE REFERENCE'S WORK, first half: delays, ways, early cycles -/
def zdm (P : zP) (i j : Nat) : Int := if i < j then (if zdc P i j = -3 then -1 else zdc P i j) else -1
def zDm (M : zM) (P : zP) : Prop := ∀ i j, i < pn P → j < pn P → M 41 (60 * i + j) = zdm P i j
theorem zdm_I {P : zP} (hw : zWf P) {i j : Nat} (hi : i < pn P) (hj : j < pn P) : -1 ≤ zdm P i j ∧ zdm P i j ≤ 12 := by
  have := zdc_I hw hi hj
  have h2 := zdv_I hw hi hj 16
  unfold zdm
  split
  · rename_i h
    rw [← zdr_eq hw h hj]
    exact h2
  · omega
theorem zdm_lt {P : zP} {i j : Nat} (h : i < j) : zdm P i j = if zdc P i j = -3 then -1 else zdc P i j := if_pos h
theorem zdc_nn {P : zP} (hw : zWf P) {i j : Nat} (hij : i < j) (hj : j < pn P) (h : zdc P i j ≠ -3) : 0 ≤ zdc P i j := by
  have h1 := zpl_le hw (i := i) (by omega)
  have key : ∀ (c1 c2 c3 : Prop) [Decidable c1] [Decidable c2] [Decidable c3] (m l o : Int), (m = -3 ∨ 0 ≤ m) → 1 ≤ l → 1 ≤ o → max (let d1 : Int := if c1 then l else -3; let d2 : Int := if c2 then max d1 0 else d1; if c3 then max d2 o else d2) m ≠ -3 → 0 ≤ max (let d1 : Int := if c1 then l else -3; let d2 : Int := if c2 then max d1 0 else d1; if c3 then max d2 o else d2) m := by
    intro c1 c2 c3 _ _ _ m l o h1 h2 h3 h4
    revert h4
    by_cases c1 <;> by_cases c2 <;> by_cases c3 <;> simp [*] <;> omega
  refine key _ _ _ _ _ (max 1 ((pl P i : Int) - pl P j + 1)) ?_ (by omega) (by omega) h
  unfold zmm
  split
  · split
    · split <;> omega
    · omega
  · omega
theorem zdm_0 {P : zP} (hw : zWf P) {i j : Nat} (hij : i < j) (hj : j < pn P) : (0 ≤ zdm P i j ↔ zdc P i j ≠ -3) ∧ (zdc P i j ≠ -3 → zdm P i j = zdc P i j ∧ 0 ≤ zdc P i j) := by
  have h := zdm_I hw (i := i) (by omega) hj
  rw [zdm_lt hij] at h ⊢
  by_cases h3 : zdc P i j = -3
  · rw [if_pos h3]
    exact ⟨by omega, fun z => absurd h3 z⟩
  · rw [if_neg h3] at h ⊢
    have h2 := zdv_I hw (i := i) (by omega) hj 16
    rw [zdr_eq hw hij hj, if_neg h3] at h2
    have h4 := zdc_I hw (i := i) (by omega) hj
    have h5 : 0 ≤ zdc P i j := zdc_nn hw hij hj h3
    exact ⟨by omega, fun _ => ⟨rfl, h5⟩⟩
section ZX
variable {L d : Nat} {M : zM} {P : zP} {Q : Option zV → zM → Prop}
theorem sp_M_delayAt {i j : Nat} (hw : zWf P) (hD : zDm M P) (hi : i < pn P) (hj : j < pn P) : zf (zSh L) 1 kX8_delayAt [zvr 34, zvi i, zvi j] M (fun v M1 => v = some (.inl (zdm P i j)) ∧ M1 = M) := by
  have h60 := hw.1
  refine zf_of rfl (Nat.le_of_ble_eq_true rfl) ?_
  repeat refine zr_s rfl rfl rfl ?_
  refine zr_ald (60 * i + j) rfl rfl (by omega) (by omega) (by decide) ?_
  rw [hD i j hi hj]
  exact zr_ret rfl (⟨rfl, rfl⟩)
theorem sp_w_delays {o1 o2 : Option zV} (hB : zBm M P) (hw : zWf P) (k : ∀ M1 p1 p2, (∀ a, a ≠ 41 → M1 a = M a) → zDm M1 P → zr (zSh L) (d + 5) tX8_work 71 [some (zvr 34), p1, p2] [] M1 Q) : zr (zSh L) (d + 5) tX8_work 13 [some (zvr 34), o1, o2] [] M Q := by
  have h60 := hw.1
  have outer : ∀ (t i : Nat) (o2 : Option zV) (N : zM), i + t = pn P → (∀ a, a ≠ 41 → N a = M a) → (∀ a b, a < i → b < pn P → N 41 (60 * a + b) = zdm P a b) → zr (zSh L) (d + 5) tX8_work 15 [some (zvr 34), some (zvi i), o2] [] N Q := by
    intro t
    induction t with
    | zero =>
      intro i o2 N hi hN hD
      have hn : N 34 5 = pn P := by rw [hN 34 (by decide)]; exact hB.1
      repeat refine zr_s rfl rfl rfl ?_
      rw [hn]
      refine zr_ige rfl (by omega) (by omega) (fun h => ?_) (fun h => by omega)
      exact k N _ _ hN (fun a b ha hb => hD a b (by omega) hb)
    | succ t ih =>
      intro i o2 N hi hN hD
      have hn : N 34 5 = pn P := by rw [hN 34 (by decide)]; exact hB.1
      repeat refine zr_s rfl rfl rfl ?_
      rw [hn]
      refine zr_ige rfl (by omega) (by omega) (fun h => by omega) (fun h => ?_)
      have inner : ∀ (u j : Nat) (N : zM), j + u = pn P → (∀ a, a ≠ 41 → N a = M a) → (∀ a b, a < i → b < pn P → N 41 (60 * a + b) = zdm P a b) → (∀ b, b < j → N 41 (60 * i + b) = zdm P i b) → zr (zSh L) (d + 5) tX8_work 25 [some (zvr 34), some (zvi i), some (zvi j)] [] N Q := by
        intro u
        induction u with
        | zero =>
          intro j N hj hN hD hE
          have hn : N 34 5 = pn P := by rw [hN 34 (by decide)]; exact hB.1
          repeat refine zr_s rfl rfl rfl ?_
          rw [hn]
          refine zr_ige rfl (by omega) (by omega) (fun h => ?_) (fun h => by omega)
          repeat refine zr_s rfl rfl rfl ?_
          refine zr_b rfl rfl ?_
          refine ih (i + 1) _ N (by omega) hN (fun a b ha hb => ?_)
          by_cases hai : a = i
          · subst hai
            exact hE b (by omega)
          · exact hD a b (by omega) hb
        | succ u ihu =>
          intro j N hj hN hD hE
          have hn : N 34 5 = pn P := by rw [hN 34 (by decide)]; exact hB.1
          repeat refine zr_s rfl rfl rfl ?_
          rw [hn]
          refine zr_ige rfl (by omega) (by omega) (fun h => by omega) (fun h => ?_)
          have put : ∀ x : Int, x = zdm P i j → zr (zSh L) (d + 5) tX8_work 58 [some (zvr 34), some (zvi i), some (zvi j)] [zvi x, zvi (60 * i + j), zvr 41] N Q := by
            intro x hx
            refine zr_ast (60 * i + j) rfl rfl (by omega) (by omega) (by decide) ?_
            repeat refine zr_s rfl rfl rfl ?_
            refine zr_b rfl rfl ?_
            refine ihu (j + 1) _ (by omega) (fun a ha => by rw [zup_row ha]; exact hN a ha) (fun a b ha hb => ?_) (fun b hb => ?_)
            · rw [zup_off (by omega)]
              exact hD a b ha hb
            · by_cases hbj : b = j
              · rw [hbj, zup_at]
                exact hx
              · rw [zup_off (by omega)]
                exact hE b (by omega)
          repeat refine zr_s rfl rfl rfl ?_
          refine zr_ige rfl (by omega) (by omega) (fun h2 => ?_) (fun h2 => ?_)
          · repeat refine zr_t 58 rfl rfl rfl rfl ?_
            exact put _ (by unfold zdm; rw [if_neg (by omega)])
          · repeat refine zr_s rfl rfl rfl ?_
            refine zr_cr rfl rfl rfl (zf_mono (Nat.le_of_ble_eq_true rfl) (sp_M_delayOf (P := P) (zBm_of hB (fun a h1 h2 => hN a (by omega))) hw (by omega) (by omega))) ?_
            repeat refine zr_t 58 rfl rfl rfl rfl ?_
            exact put _ (by rw [zdr_eq hw (by omega) (by omega), zdm_lt (by omega)])
      repeat refine zr_t 25 rfl rfl rfl rfl ?_
      exact inner (pn P) 0 N (by omega) hN hD (fun b hb => by omega)
  repeat refine zr_t 15 rfl rfl rfl rfl ?_
  exact outer (pn P) 0 _ M (by omega) (fun _ _ => rfl) (fun a b ha _ => by omega)
theorem sp_w_ways {o1 o2 : Option zV} (hB : zBm M P) (hw : zWf P) (hD : zDm M P) (k : ∀ M1 p1 p2, (∀ a, a ≠ 42 → M1 a = M a) → zIsW P (M1 42) 0 → zr (zSh L) (d + 5) tX8_work 167 [some (zvr 34), p1, p2] [] M1 Q) : zr (zSh L) (d + 5) tX8_work 71 [some (zvr 34), o1, o2] [] M Q := by
  have h60 := hw.1
  have outer : ∀ (i : Nat) (o2 : Option zV) (N : zM), i ≤ pn P → (∀ a, a ≠ 42 → N a = M a) → zIsW P (N 42) i → zr (zSh L) (d + 5) tX8_work 78 [some (zvr 34), some (zvi ((i : Int) - 1)), o2] [] N Q := by
    intro i
    induction i with
    | zero =>
      intro o2 N hi hN hW
      repeat refine zr_s rfl rfl rfl ?_
      refine zr_zlt rfl (by omega) (fun h => ?_) (fun h => by omega)
      exact k N _ _ hN hW
    | succ i ih =>
      intro o2 N hi hN hW
      have hBN : zBm N P := zBm_of hB (fun a h1 h2 => hN a (by omega))
      have hl := zpl_le hw (i := i) (by omega)
      rw [show ((i + 1 : Nat) : Int) - 1 = i by omega]
      repeat refine zr_s rfl rfl rfl ?_
      refine zr_zlt rfl (by omega) (fun h => by omega) (fun h => ?_)
      repeat refine zr_s rfl rfl rfl ?_
      refine zr_cr rfl rfl rfl (zf_mono (Nat.le_of_ble_eq_true rfl) (sp_M_latencyOf hBN hw (by omega))) ?_
      refine zr_ast (i) rfl rfl rfl (by omega) (by decide) ?_
      have hFI : ∀ q, i < q → q < pn P → 1 ≤ N 42 q ∧ N 42 q ≤ 12 * ((pn P : Int) - q) := fun q h1 h2 => zIsW_I hw hW (pn P - q) q (by omega) (by omega) h2
      have inner : ∀ (u t : Nat) (N1 : zM), i + 1 + t + u = pn P → (∀ a, a ≠ 42 → N1 a = M a) → (∀ q, i < q → q < pn P → N1 42 q = N 42 q) → N1 42 i = zwf P i (N 42) t → zr (zSh L) (d + 5) tX8_work 97 [some (zvr 34), some (zvi i), some (zvi ((i + 1 + t : Nat) : Int))] [] N1 Q := by
        intro u
        induction u with
        | zero =>
          intro t N1 ht hN1 hF hE
          have hn : N1 34 5 = pn P := by rw [hN1 34 (by decide)]; exact hB.1
          repeat refine zr_s rfl rfl rfl ?_
          rw [hn]
          refine zr_ige rfl (by omega) (by omega) (fun h => ?_) (fun h => by omega)
          repeat refine zr_s rfl rfl rfl ?_
          refine zr_b rfl rfl ?_
          refine ih _ N1 (by omega) hN1 (fun q h1 h2 => ?_)
          by_cases hq : q = i
          · subst hq
            rw [hE, show t = pn P - 1 - q by omega]
            exact zwf_congr _ (fun j g1 g2 => (hF j g1 (by omega)).symm)
          · rw [hF q (by omega) h2, hW q (by omega) h2]
            exact zwf_congr _ (fun j g1 g2 => (hF j (by omega) (by omega)).symm)
        | succ u ihu =>
          intro t N1 ht hN1 hF hE
          have hn : N1 34 5 = pn P := by rw [hN1 34 (by decide)]; exact hB.1
          have hDN : zDm N1 P := fun a b ha hb => by rw [hN1 41 (by decide)]; exact hD a b ha hb
          have hz := zdm_0 hw (i := i) (j := i + 1 + t) (by omega) (by omega)
          have hzI := zdm_I hw (i := i) (j := i + 1 + t) (by omega) (by omega)
          have hwI := zwf_I hw (f := N 42) (i := i) (by omega) t (by omega) hFI
          have hjI := hFI (i + 1 + t) (by omega) (by omega)
          have keep : N1 42 i = zwf P i (N 42) (t + 1) → zr (zSh L) (d + 5) tX8_work 155 [some (zvr 34), some (zvi i), some (zvi ((i + 1 + t : Nat) : Int))] [] N1 Q := fun h => by
            repeat refine zr_s rfl rfl rfl ?_
            refine zr_b rfl rfl ?_
            exact ihu (t + 1) N1 (by omega) hN1 hF h
          have wS : zwf P i (N 42) (t + 1) = if zdc P i (i + 1 + t) ≠ -3 then max (zwf P i (N 42) t) (zdc P i (i + 1 + t) + N 42 (i + 1 + t)) else zwf P i (N 42) t := rfl
          repeat refine zr_s rfl rfl rfl ?_
          rw [hn]
          refine zr_ige rfl (by omega) (by omega) (fun h => by omega) (fun h => ?_)
          repeat refine zr_s rfl rfl rfl ?_
          refine zr_cr rfl rfl rfl (zf_mono (Nat.le_of_ble_eq_true rfl) (sp_M_delayAt hw hDN (by omega) (by omega))) ?_
          refine zr_zlt rfl (by omega) (fun h2 => ?_) (fun h2 => ?_)
          · exact keep (by rw [wS, if_neg (by omega), hE])
          have hne : zdc P i (i + 1 + t) ≠ -3 := hz.1.mp h2
          have hde := hz.2 hne
          rw [if_pos hne] at wS
          repeat refine zr_s rfl rfl rfl ?_
          refine zr_cr rfl rfl rfl (zf_mono (Nat.le_of_ble_eq_true rfl) (sp_M_delayAt hw hDN (by omega) (by omega))) ?_
          repeat refine zr_s rfl rfl rfl ?_
          refine zr_ald (i + 1 + t) rfl rfl rfl (by omega) (by decide) ?_
          repeat refine zr_s rfl rfl rfl ?_
          refine zr_ald (i) rfl rfl rfl (by omega) (by decide) ?_
          rw [hF (i + 1 + t) (by omega) (by omega), hE]
          refine zr_ile rfl (by omega) (by omega) (fun h3 => ?_) (fun h3 => ?_)
          · exact keep (by rw [wS, hE]; omega)
          repeat refine zr_s rfl rfl rfl ?_
          refine zr_cr rfl rfl rfl (zf_mono (Nat.le_of_ble_eq_true rfl) (sp_M_delayAt hw hDN (by omega) (by omega))) ?_
          repeat refine zr_s rfl rfl rfl ?_
          refine zr_ald (i + 1 + t) rfl rfl rfl (by omega) (by decide) ?_
          repeat refine zr_s rfl rfl rfl ?_
          refine zr_ast (i) rfl rfl rfl (by omega) (by decide) ?_
          repeat refine zr_s rfl rfl rfl ?_
          refine zr_b rfl rfl ?_
          rw [hF (i + 1 + t) (by omega) (by omega)]
          refine ihu (t + 1) _ (by omega) (fun a ha => by rw [zup_row ha]; exact hN1 a ha) (fun q h4 h5 => by rw [zup_off (by omega)]; exact hF q h4 h5) ?_
          rw [zup_at, wS]
          omega
      repeat refine zr_t 97 rfl rfl rfl rfl ?_
      exact inner (pn P - (i + 1)) 0 _ (by omega) (fun a ha => by rw [zup_row ha]; exact hN a ha) (fun q h1 h2 => zup_off (by omega)) zup_at
  repeat refine zr_t 78 rfl rfl rfl rfl ?_
  rw [hB.1]
  exact outer (pn P) _ M (Nat.le_refl _) (fun _ _ => rfl) (fun i h1 h2 => by omega)
theorem sp_w_early {o1 o2 : Option zV} (hB : zBm M P) (hw : zWf P) (hD : zDm M P) (k : ∀ M1 p1 p2, (∀ a, a ≠ 43 → M1 a = M a) → zIsE P (M1 43) (pn P) → zr (zSh L) (d + 5) tX8_work 253 [some (zvr 34), p1, p2] [] M1 Q) : zr (zSh L) (d + 5) tX8_work 167 [some (zvr 34), o1, o2] [] M Q := by
  have h60 := hw.1
  have outer : ∀ (t j : Nat) (o2 : Option zV) (N : zM), j + t = pn P → (∀ a, a ≠ 43 → N a = M a) → zIsE P (N 43) j → (∀ q, q < j → 0 ≤ N 43 q ∧ N 43 q ≤ 12 * q) → zr (zSh L) (d + 5) tX8_work 169 [some (zvr 34), some (zvi j), o2] [] N Q := by
    intro t
    induction t with
    | zero =>
      intro j o2 N hj hN hE hI
      have hn : N 34 5 = pn P := by rw [hN 34 (by decide)]; exact hB.1
      repeat refine zr_s rfl rfl rfl ?_
      rw [hn]
      refine zr_ige rfl (by omega) (by omega) (fun h => ?_) (fun h => by omega)
      exact k N _ _ hN (by rw [show pn P = j by omega]; exact hE)
    | succ t ih =>
      intro j o2 N hj hN hE hI
      have hn : N 34 5 = pn P := by rw [hN 34 (by decide)]; exact hB.1
      repeat refine zr_s rfl rfl rfl ?_
      rw [hn]
      refine zr_ige rfl (by omega) (by omega) (fun h => by omega) (fun h => ?_)
      repeat refine zr_s rfl rfl rfl ?_
      refine zr_ast (j) rfl rfl rfl (by omega) (by decide) ?_
      have inner : ∀ (u i : Nat) (N1 : zM), i + u = j → (∀ a, a ≠ 43 → N1 a = M a) → (∀ q, q < j → N1 43 q = N 43 q) → N1 43 j = zlc (fun i => zdc P i j) (N 43) i → zr (zSh L) (d + 5) tX8_work 186 [some (zvr 34), some (zvi j), some (zvi i)] [] N1 Q := by
        intro u
        induction u with
        | zero =>
          intro i N1 hi hN1 hF hG
          repeat refine zr_s rfl rfl rfl ?_
          refine zr_ige rfl (by omega) (by omega) (fun h => ?_) (fun h => by omega)
          repeat refine zr_s rfl rfl rfl ?_
          refine zr_b rfl rfl ?_
          have hij : i = j := by omega
          subst hij
          have hb : 0 ≤ zlc (fun q => zdc P q i) (N 43) i ∧ zlc (fun q => zdc P q i) (N 43) i ≤ 12 * i := by
            by_cases h0 : i = 0
            · subst h0
              exact ⟨Int.le_refl _, Int.le_refl _⟩
            · have := zlc_I (g := fun q => zdc P q i) (f := N 43) i (c := 12 * (i : Int) - 12) (by omega) (fun q hq => by have := zdc_I hw (i := q) (j := i) (by omega) (by omega); have := hI q hq; exact ⟨by omega, by omega, by omega⟩)
              omega
          refine ih (i + 1) _ N1 (by omega) hN1 (fun q hq => ?_) (fun q hq => ?_)
          · by_cases hqi : q = i
            · subst hqi
              rw [hG]
              exact zlc_congr _ (fun a ha _ => (hF a ha).symm)
            · rw [hF q (by omega), hE q (by omega)]
              exact zlc_congr _ (fun a ha _ => (hF a (by omega)).symm)
          · by_cases hqi : q = i
            · subst hqi
              rw [hG]
              exact hb
            · rw [hF q (by omega)]
              exact hI q (by omega)
        | succ u ihu =>
          intro i N1 hi hN1 hF hG
          have hDN : zDm N1 P := fun a b ha hb => by rw [hN1 41 (by decide)]; exact hD a b ha hb
          have hz := zdm_0 hw (i := i) (j := j) (by omega) (by omega)
          have hzI := zdm_I hw (i := i) (j := j) (by omega) (by omega)
          have hcI := zlc_I (g := fun q => zdc P q j) (f := N 43) i (c := 12 * (i : Int)) (by omega) (fun q hq => by have := zdc_I hw (i := q) (j := j) (by omega) (by omega); have := hI q (by omega); exact ⟨by omega, by omega, by omega⟩)
          have hiI := hI i (by omega)
          have keep : N1 43 j = zlc (fun i => zdc P i j) (N 43) (i + 1) → zr (zSh L) (d + 5) tX8_work 241 [some (zvr 34), some (zvi j), some (zvi i)] [] N1 Q := fun h => by
            repeat refine zr_s rfl rfl rfl ?_
            refine zr_b rfl rfl ?_
            exact ihu (i + 1) N1 (by omega) hN1 hF h
          have wS : zlc (fun i => zdc P i j) (N 43) (i + 1) = if zdc P i j ≠ -3 ∧ 0 ≤ N 43 i then max (zlc (fun i => zdc P i j) (N 43) i) (N 43 i + zdc P i j) else zlc (fun i => zdc P i j) (N 43) i := rfl
          repeat refine zr_s rfl rfl rfl ?_
          refine zr_ige rfl (by omega) (by omega) (fun h => by omega) (fun h => ?_)
          repeat refine zr_s rfl rfl rfl ?_
          refine zr_cr rfl rfl rfl (zf_mono (Nat.le_of_ble_eq_true rfl) (sp_M_delayAt hw hDN (by omega) (by omega))) ?_
          refine zr_zlt rfl (by omega) (fun h2 => ?_) (fun h2 => ?_)
          · exact keep (by rw [wS, if_neg (by omega), hG])
          have hne : zdc P i j ≠ -3 := hz.1.mp h2
          have hde := hz.2 hne
          rw [if_pos ⟨hne, hiI.1⟩] at wS
          repeat refine zr_s rfl rfl rfl ?_
          refine zr_ald (i) rfl rfl rfl (by omega) (by decide) ?_
          repeat refine zr_s rfl rfl rfl ?_
          refine zr_cr rfl rfl rfl (zf_mono (Nat.le_of_ble_eq_true rfl) (sp_M_delayAt hw hDN (by omega) (by omega))) ?_
          repeat refine zr_s rfl rfl rfl ?_
          refine zr_ald (j) rfl rfl rfl (by omega) (by decide) ?_
          rw [hF i (by omega), hG]
          refine zr_ile rfl (by omega) (by omega) (fun h3 => ?_) (fun h3 => ?_)
          · exact keep (by rw [wS, hG]; omega)
          repeat refine zr_s rfl rfl rfl ?_
          refine zr_ald (i) rfl rfl rfl (by omega) (by decide) ?_
          repeat refine zr_s rfl rfl rfl ?_
          refine zr_cr rfl rfl rfl (zf_mono (Nat.le_of_ble_eq_true rfl) (sp_M_delayAt hw hDN (by omega) (by omega))) ?_
          repeat refine zr_s rfl rfl rfl ?_
          refine zr_ast (j) rfl rfl rfl (by omega) (by decide) ?_
          repeat refine zr_s rfl rfl rfl ?_
          refine zr_b rfl rfl ?_
          rw [hF i (by omega)]
          refine ihu (i + 1) _ (by omega) (fun a ha => by rw [zup_row ha]; exact hN1 a ha) (fun q h4 => by rw [zup_off (by omega)]; exact hF q h4) ?_
          rw [zup_at, wS]
          omega
      repeat refine zr_t 186 rfl rfl rfl rfl ?_
      exact inner j 0 _ (by omega) (fun a ha => by rw [zup_row ha]; exact hN a ha) (fun q h1 => zup_off (by omega)) zup_at
  repeat refine zr_t 169 rfl rfl rfl rfl ?_
  exact outer (pn P) 0 _ M (by omega) (fun _ _ => rfl) (fun j hj => by omega) (fun q hq => by omega)
end ZX
