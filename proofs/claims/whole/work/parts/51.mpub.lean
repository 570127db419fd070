/-! THE REFERENCE'S CALLS: add, cut, latency, units, delay, about, listed -/
section ZX
variable {S : List zC} {d : Nat} {cd : List (Option zR)} {pc : Nat} {ls : List (Option zV)} {st : List zV} {M : zM} {Q : Option zV → zM → Prop}
/-- a truth value is put into a field -/
theorem zr_putz {x : Int} {j c rb idx : Nat} {fs : List (Option (Option Nat))} (hc : cd[pc]? = some (some (.putfield idx, c, rb, 1))) (hS : S[j + 1]? = some (.inr (c, fs))) (hf : fs[rb]? = some none) (hx : x = 0 ∨ x = 1) (k : zr S d cd (pc + 3) ls st (zup M (j + 1) rb x) Q) : zr S d cd pc ls (.inl x :: .inr (some (j + 1)) :: st) M Q := by
  refine zWp_step hc rfl ?_ k
  simp only [zstep, hS]
  rw [if_pos ⟨trivial, by decide, fun _ => hx⟩, hf]
end ZX
section ZX
variable {L : Nat} {M : zM} {P : zP} {A : zA}
theorem sp_workS (hA : zMS M A) : zf (zSh L) 6 kX8_work [zvr 34] M (fun v M1 => v = none ∧ M1 34 9 = 1 ∧ zMS M1 A ∧ zFM M M1) := by
  refine zf_post (sp_M_work hA.1) (fun r M1 h => ?_)
  obtain ⟨h1, h2, h3, h4, h5⟩ := h
  obtain ⟨-, g2, g3, g4, g5, g6, g7, g8, g9⟩ := hA
  exact ⟨h1, h2, ⟨h3, by rw [h4 48 (by omega)]; exact g2, by rw [h4 48 (by omega)]; exact g3, by rw [h5 20 (by decide) (by decide)]; exact g4, by rw [h5 21 (by decide) (by decide)]; exact g5, by rw [h4 51 (by omega)]; exact g6, by rw [h4 52 (by omega)]; exact g7, by rw [h4 53 (by omega)]; exact g8, by rw [h4 54 (by omega)]; exact g9⟩, fun a ha => h4 a (by omega)⟩
theorem sp_M_isThere {x : Int} (hB : zBm M P) (hw : zWf P) (hx : zI x) : zf (zSh L) 1 kX8_isThere [zvr 34, zvi x] M (fun v M1 => v = some (.inl (zb (decide (0 ≤ x ∧ x < pn P)))) ∧ M1 = M) := by
  have h60 := hw.1
  refine zf_of rfl (Nat.le_of_ble_eq_true rfl) ?_
  repeat refine zr_s rfl rfl rfl ?_
  refine zr_zlt rfl hx (fun h => ?_) (fun h => ?_)
  · repeat refine zr_s rfl rfl rfl ?_
    exact zr_retz rfl (by omega) (⟨by rw [zb_f (by simp; omega)], rfl⟩)
  · repeat refine zr_s rfl rfl rfl ?_
    rw [hB.1]
    refine zr_ige rfl hx (by omega) (fun h2 => ?_) (fun h2 => ?_)
    · repeat refine zr_s rfl rfl rfl ?_
      exact zr_retz rfl (by omega) (⟨by rw [zb_f (by simp; omega)], rfl⟩)
    · repeat refine zr_s rfl rfl rfl ?_
      exact zr_retz rfl (by omega) (⟨by rw [zb_t (by simp; omega)], rfl⟩)
theorem sp_M_add {k d a b c : Int} (hA : zMS M A) (hk : zI k) (hd : zI d) (ha : zI a) (hb : zI b) (hc : zI c) : zf (zSh L) 2 kX8_add [zvr 34, zvi k, zvi d, zvi a, zvi b, zvi c] M (fun v M1 => v = some (.inl (zs_add A k d a b c).1) ∧ zMS M1 (zs_add A k d a b c).2 ∧ zFM M M1) := by
  have hA0 := hA
  obtain ⟨hI, g2, g3, g4, g5, g6, g7, g8, g9⟩ := hA
  obtain ⟨hB, hw, h9, hC⟩ := hI
  have h60 := hw.1
  have hn := hB.1
  have bad79 : ∀ o6, ¬ zgood' k d a b → zr (zSh L) 1 tX8_add 79 [some (zvr 34), some (zvi k), some (zvi d), some (zvi a), some (zvi b), some (zvi c), o6] [] M (fun v M1 => v = some (.inl (zs_add A k d a b c).1) ∧ zMS M1 (zs_add A k d a b c).2 ∧ zFM M M1) := fun o6 h => by
    repeat refine zr_s rfl rfl rfl ?_
    refine zr_zne rfl (by decide) (fun h => absurd rfl h) (fun _ => ?_)
    repeat refine zr_s rfl rfl rfl ?_
    refine zr_ret rfl ?_
    unfold zs_add
    rw [if_neg h]
    exact ⟨rfl, hA0, zFM_rf⟩
  have bad50 : ∀ o6, ¬ zgood' k d a b → zr (zSh L) 1 tX8_add 50 [some (zvr 34), some (zvi k), some (zvi d), some (zvi a), some (zvi b), some (zvi c), o6] [] M (fun v M1 => v = some (.inl (zs_add A k d a b c).1) ∧ zMS M1 (zs_add A k d a b c).2 ∧ zFM M M1) := fun o6 h => by
    repeat refine zr_s rfl rfl rfl ?_
    exact zr_zeq rfl (by decide) (fun _ => bad79 _ h) (fun h => absurd rfl h)
  -- all is good
  have good : ∀ o6, zgood' k d a b → zr (zSh L) 1 tX8_add 75 [some (zvr 34), some (zvi k), some (zvi d), some (zvi a), some (zvi b), some (zvi c), o6] [] M (fun v M1 => v = some (.inl (zs_add A k d a b c).1) ∧ zMS M1 (zs_add A k d a b c).2 ∧ zFM M M1) := fun o6 hg => by
    have good : zs_add A k d a b c = if pn A.1 = 60 then (-2, A) else ((pn A.1 : Int), (zadd A.1 k d a b c, zfu A.2.1 (pn A.1) (-3), A.2.2)) := by unfold zs_add; rw [if_pos hg]
    rw [good]
    repeat refine zr_s rfl rfl rfl ?_
    refine zr_zne rfl (by decide) (fun _ => ?_) (fun h => by cases h)
    repeat refine zr_s rfl rfl rfl ?_
    rw [hn]
    refine zr_ine rfl (by omega) (by decide) (fun h3 => ?_) (fun h3 => ?_)
    rotate_left
    · rw [if_pos (by omega)]
      repeat refine zr_s rfl rfl rfl ?_
      exact zr_ret rfl (⟨rfl, hA0, zFM_rf⟩)
    rw [if_neg (by omega)]
    repeat refine zr_s rfl rfl rfl ?_
    rw [hn]
    refine zr_ast (pn A.1) rfl rfl rfl (by omega) (by decide) ?_
    repeat refine zr_s rfl rfl rfl ?_
    rw [zup_row (by decide), hn]
    refine zr_ast (pn A.1) rfl rfl rfl (by omega) (by decide) ?_
    repeat refine zr_s rfl rfl rfl ?_
    rw [zup_row (by decide), zup_row (by decide), hn]
    refine zr_ast (pn A.1) rfl rfl rfl (by omega) (by decide) ?_
    repeat refine zr_s rfl rfl rfl ?_
    rw [zup_row (by decide), zup_row (by decide), zup_row (by decide), hn]
    refine zr_ast (pn A.1) rfl rfl rfl (by omega) (by decide) ?_
    repeat refine zr_s rfl rfl rfl ?_
    rw [zup_row (by decide), zup_row (by decide), zup_row (by decide), zup_row (by decide), hn]
    refine zr_ast (pn A.1) rfl rfl rfl (by omega) (by decide) ?_
    repeat refine zr_s rfl rfl rfl ?_
    rw [zup_row (by decide), zup_row (by decide), zup_row (by decide), zup_row (by decide), zup_row (by decide), hn]
    refine zr_ast (pn A.1) rfl rfl rfl (by omega) (by decide) ?_
    repeat refine zr_s rfl rfl rfl ?_
    have e5 : zup (zup (zup (zup (zup (zup M 35 (pn A.1) k) 36 (pn A.1) d) 37 (pn A.1) a) 38 (pn A.1) b) 39 (pn A.1) c) 48 (pn A.1) (-3) 34 5 = pn A.1 := by
      rw [zup_row (by decide), zup_row (by decide), zup_row (by decide), zup_row (by decide), zup_row (by decide), zup_row (by decide)]
      exact hn
    rw [e5]
    generalize hN : zup (zup (zup (zup (zup (zup (zup (zup M 35 (pn A.1) k) 36 (pn A.1) d) 37 (pn A.1) a) 38 (pn A.1) b) 39 (pn A.1) c) 48 (pn A.1) (-3)) 34 5 ((pn A.1 : Int) + 1)) 34 9 0 = N
    have row : ∀ q, q < 34 ∨ (39 < q ∧ q ≠ 48) → N q = M q := by
      intro q hq
      rw [← hN, zup_row (by omega), zup_row (by omega), zup_row (by omega), zup_row (by omega), zup_row (by omega), zup_row (by omega), zup_row (by omega), zup_row (by omega)]
    have r34 : ∀ q, q ≠ 5 → q ≠ 9 → N 34 q = M 34 q := by
      intro q h1 h2
      rw [← hN, zup_off h2, zup_off h1, zup_row (by decide), zup_row (by decide), zup_row (by decide), zup_row (by decide), zup_row (by decide), zup_row (by decide)]
    have r345 : N 34 5 = (pn A.1 : Int) + 1 := by rw [← hN, zup_off (by decide), zup_at]
    have r349 : N 34 9 = 0 := by rw [← hN, zup_at]
    have x35 : ∀ i, N 35 i = if i = pn A.1 then k else M 35 i := by
      intro i
      rw [← hN, zup_row (by decide), zup_row (by decide), zup_row (by decide), zup_row (by decide), zup_row (by decide), zup_row (by decide), zup_row (by decide)]
      by_cases h : i = pn A.1
      · rw [if_pos h, h, zup_at]
      · rw [if_neg h, zup_off h]
    have x36 : ∀ i, N 36 i = if i = pn A.1 then d else M 36 i := by
      intro i
      rw [← hN, zup_row (by decide), zup_row (by decide), zup_row (by decide), zup_row (by decide), zup_row (by decide), zup_row (by decide)]
      by_cases h : i = pn A.1
      · rw [if_pos h, h, zup_at]
      · rw [if_neg h, zup_off h, zup_row (by decide)]
    have x37 : ∀ i, N 37 i = if i = pn A.1 then a else M 37 i := by
      intro i
      rw [← hN, zup_row (by decide), zup_row (by decide), zup_row (by decide), zup_row (by decide), zup_row (by decide)]
      by_cases h : i = pn A.1
      · rw [if_pos h, h, zup_at]
      · rw [if_neg h, zup_off h, zup_row (by decide), zup_row (by decide)]
    have x38 : ∀ i, N 38 i = if i = pn A.1 then b else M 38 i := by
      intro i
      rw [← hN, zup_row (by decide), zup_row (by decide), zup_row (by decide), zup_row (by decide)]
      by_cases h : i = pn A.1
      · rw [if_pos h, h, zup_at]
      · rw [if_neg h, zup_off h, zup_row (by decide), zup_row (by decide), zup_row (by decide)]
    have x39 : ∀ i, N 39 i = if i = pn A.1 then c else M 39 i := by
      intro i
      rw [← hN, zup_row (by decide), zup_row (by decide), zup_row (by decide)]
      by_cases h : i = pn A.1
      · rw [if_pos h, h, zup_at]
      · rw [if_neg h, zup_off h, zup_row (by decide), zup_row (by decide), zup_row (by decide), zup_row (by decide)]
    have x48 : ∀ i, N 48 i = if i = pn A.1 then -3 else M 48 i := by
      intro i
      rw [← hN, zup_row (by decide), zup_row (by decide)]
      by_cases h : i = pn A.1
      · rw [if_pos h, h, zup_at]
      · rw [if_neg h, zup_off h, zup_row (by decide), zup_row (by decide), zup_row (by decide), zup_row (by decide), zup_row (by decide)]
    rw [r345]
    refine zr_ret rfl ⟨by rw [show (pn A.1 : Int) + 1 - 1 = pn A.1 by omega], ?_, fun q hq => row q (by omega)⟩
    have hBN : zBm N (zadd A.1 k d a b c) := by
      obtain ⟨-, b2, b3, b4⟩ := hB
      refine ⟨?_, ?_, fun q hq => ?_, fun i hi => ?_⟩
      · show N 34 5 = ((pn A.1 + 1 : Nat) : Int)
        rw [r345]
        push_cast
        rfl
      · rw [r34 7 (by decide) (by decide)]
        exact b2
      · rw [row 40 (by omega)]
        exact b3 q hq
      · have hi : i < pn A.1 + 1 := hi
        rw [x35, x36, x37, x38, x39]
        show _ = ((zfn (pK A.1) (pn A.1) k.toNat i : Nat) : Int) ∧ (zfn (pK A.1) (pn A.1) k.toNat i ≠ 6 → _ = ((zfn (pT A.1) (pn A.1) (if k = 6 then 0 else d.toNat) i : Nat) : Int)) ∧ (zfn (pK A.1) (pn A.1) k.toNat i ≠ 0 → _ = ((zfn (pA A.1) (pn A.1) (if k = 0 then 0 else a.toNat) i : Nat) : Int)) ∧ (zfn (pK A.1) (pn A.1) k.toNat i ≠ 0 → zfn (pK A.1) (pn A.1) k.toNat i ≠ 5 → _ = ((zfn (pB A.1) (pn A.1) (if k = 0 ∨ k = 5 then 0 else b.toNat) i : Nat) : Int)) ∧ _ = zfu (pC A.1) (pn A.1) c i
        unfold zfn zfu
        obtain ⟨q1, q2, q3, q4⟩ := hg
        unfold zisR at q2 q3 q4
        by_cases h : i = pn A.1
        · rw [if_pos h, if_pos h, if_pos h, if_pos h, if_pos h, if_pos h, if_pos h, if_pos h, if_pos h, if_pos h]
          refine ⟨by omega, fun z => ?_, fun z => ?_, fun z z2 => ?_, rfl⟩
          · rw [if_neg (by omega)]
            omega
          · rw [if_neg (by omega)]
            omega
          · rw [if_neg (by omega)]
            omega
        · rw [if_neg h, if_neg h, if_neg h, if_neg h, if_neg h, if_neg h, if_neg h, if_neg h, if_neg h, if_neg h]
          exact b4 i (by omega)
    refine ⟨⟨hBN, zadd_wf hw (by omega) hg hc, Or.inl r349, fun h => by rw [r349] at h; cases h⟩, fun i hi => ?_, fun i hi => ?_, by rw [r34 20 (by decide) (by decide)]; exact g4, by rw [r34 21 (by decide) (by decide)]; exact g5, by rw [row 51 (by omega)]; exact g6, by rw [row 52 (by omega)]; exact g7, by rw [row 53 (by omega)]; exact g8, by rw [row 54 (by omega)]; exact g9⟩
    · have hi : i < pn A.1 + 1 := hi
      show N 48 i = zfu A.2.1 (pn A.1) (-3) i
      rw [x48]
      unfold zfu
      by_cases h : i = pn A.1
      · rw [if_pos h, if_pos h]
      · rw [if_neg h, if_neg h]
        exact g2 i (by omega)
    · have hi : i < pn A.1 + 1 := hi
      rw [x48]
      by_cases h : i = pn A.1
      · rw [if_pos h]
        exact Or.inl rfl
      · rw [if_neg h]
        exact g3 i (by omega)
  have third : ∀ o6, (0 ≤ k ∧ k < 7) → (k = 6 ∨ zisR d) → (k = 0 ∨ zisR a) → zr (zSh L) 1 tX8_add 46 [some (zvr 34), some (zvi k), some (zvi d), some (zvi a), some (zvi b), some (zvi c), o6] [] M (fun v M1 => v = some (.inl (zs_add A k d a b c).1) ∧ zMS M1 (zs_add A k d a b c).2 ∧ zFM M M1) := fun o6 q1 q2 q3 => by
    repeat refine zr_s rfl rfl rfl ?_
    refine zr_zeq rfl (by decide) (fun h => by cases h) (fun _ => ?_)
    repeat refine zr_s rfl rfl rfl ?_
    refine zr_zeq rfl hk (fun h => good _ ⟨q1, q2, q3, Or.inl h⟩) (fun h => ?_)
    repeat refine zr_s rfl rfl rfl ?_
    refine zr_ieq rfl hk (by decide) (fun h2 => good _ ⟨q1, q2, q3, Or.inr (Or.inl h2)⟩) (fun h2 => ?_)
    repeat refine zr_s rfl rfl rfl ?_
    refine zr_cr rfl rfl rfl (zf_mono (Nat.le_of_ble_eq_true rfl) (sp_isRegisterM hb)) ?_
    by_cases h6 : 0 ≤ b ∧ b < 16
    · rw [zb_t (by simpa using h6)]
      refine zr_zeq rfl (by decide) (fun h => by cases h) (fun _ => ?_)
      exact good _ ⟨q1, q2, q3, Or.inr (Or.inr h6)⟩
    · rw [zb_f (by simpa using h6)]
      refine zr_zeq rfl (by decide) (fun _ => ?_) (fun h => absurd rfl h)
      exact bad79 _ (fun z => by rcases z.2.2.2 with z | z | z; exact h z; exact h2 z; exact h6 z)
  have second : ∀ o6, (0 ≤ k ∧ k < 7) → (k = 6 ∨ zisR d) → zr (zSh L) 1 tX8_add 35 [some (zvr 34), some (zvi k), some (zvi d), some (zvi a), some (zvi b), some (zvi c), o6] [] M (fun v M1 => v = some (.inl (zs_add A k d a b c).1) ∧ zMS M1 (zs_add A k d a b c).2 ∧ zFM M M1) := fun o6 q1 q2 => by
    repeat refine zr_s rfl rfl rfl ?_
    refine zr_zeq rfl hk (fun h => third _ q1 q2 (Or.inl h)) (fun h => ?_)
    repeat refine zr_s rfl rfl rfl ?_
    refine zr_cr rfl rfl rfl (zf_mono (Nat.le_of_ble_eq_true rfl) (sp_isRegisterM ha)) ?_
    by_cases h6 : 0 ≤ a ∧ a < 16
    · rw [zb_t (by simpa using h6)]
      refine zr_zeq rfl (by decide) (fun h => by cases h) (fun _ => ?_)
      exact third _ q1 q2 (Or.inr h6)
    · rw [zb_f (by simpa using h6)]
      refine zr_zeq rfl (by decide) (fun _ => ?_) (fun h => absurd rfl h)
      exact bad50 _ (fun z => by rcases z.2.2.1 with z | z; exact h z; exact h6 z)
  refine zf_of rfl (Nat.le_of_ble_eq_true rfl) ?_
  repeat refine zr_s rfl rfl rfl ?_
  have no : ∀ o6, ¬ (0 ≤ k ∧ k < 7) → zr (zSh L) 1 tX8_add 14 [some (zvr 34), some (zvi k), some (zvi d), some (zvi a), some (zvi b), some (zvi c), o6] [] M (fun v M1 => v = some (.inl (zs_add A k d a b c).1) ∧ zMS M1 (zs_add A k d a b c).2 ∧ zFM M M1) := fun o6 h => by
    repeat refine zr_s rfl rfl rfl ?_
    exact zr_zeq rfl (by decide) (fun _ => bad50 _ (fun z => h z.1)) (fun h => absurd rfl h)
  refine zr_zlt rfl hk (fun h => no _ (by omega)) (fun h => ?_)
  repeat refine zr_s rfl rfl rfl ?_
  refine zr_igt rfl hk (by decide) (fun h2 => no _ (by omega)) (fun h2 => ?_)
  repeat refine zr_s rfl rfl rfl ?_
  refine zr_zeq rfl (by decide) (fun h => by cases h) (fun _ => ?_)
  repeat refine zr_s rfl rfl rfl ?_
  refine zr_ieq rfl hk (by decide) (fun h3 => second _ (by omega) (Or.inl h3)) (fun h3 => ?_)
  repeat refine zr_s rfl rfl rfl ?_
  refine zr_cr rfl rfl rfl (zf_mono (Nat.le_of_ble_eq_true rfl) (sp_isRegisterM hd)) ?_
  by_cases h6 : 0 ≤ d ∧ d < 16
  · rw [zb_t (by simpa using h6)]
    refine zr_zeq rfl (by decide) (fun h => by cases h) (fun _ => ?_)
    exact second _ (by omega) (Or.inr h6)
  · rw [zb_f (by simpa using h6)]
    refine zr_zeq rfl (by decide) (fun _ => ?_) (fun h => absurd rfl h)
    exact bad50 _ (fun z => by rcases z.2.1 with z | z; exact h3 z; exact h6 z)
theorem sp_M_cut {m : Int} (hA : zMS M A) (hm : zI m) : zf (zSh L) 2 kX8_cut [zvr 34, zvi m] M (fun v M1 => v = some (.inl (zs_cut A m).1) ∧ zMS M1 (zs_cut A m).2 ∧ zFM M M1) := by
  have hA0 := hA
  obtain ⟨hI, g2, g3, g4, g5, g6, g7, g8, g9⟩ := hA
  obtain ⟨hB, hw, h9, hC⟩ := hI
  have h60 := hw.1
  have hn := hB.1
  have bad : (m < 0 ∨ (pn A.1 : Int) < m) → zr (zSh L) 1 tX8_cut 12 [some (zvr 34), some (zvi m)] [] M (fun v M1 => v = some (.inl (zs_cut A m).1) ∧ zMS M1 (zs_cut A m).2 ∧ zFM M M1) := fun h => by
    repeat refine zr_s rfl rfl rfl ?_
    refine zr_ret rfl ?_
    unfold zs_cut
    rw [if_pos h]
    exact ⟨rfl, hA0, zFM_rf⟩
  refine zf_of rfl (Nat.le_of_ble_eq_true rfl) ?_
  repeat refine zr_s rfl rfl rfl ?_
  refine zr_zlt rfl hm (fun h => bad (Or.inl h)) (fun h => ?_)
  repeat refine zr_s rfl rfl rfl ?_
  rw [hn]
  refine zr_ile rfl hm (by omega) (fun h2 => ?_) (fun h2 => bad (Or.inr (by omega)))
  unfold zs_cut
  rw [if_neg (by omega)]
  obtain ⟨q, hq⟩ : ∃ q : Nat, (pn A.1 : Int) - m = q := Int.eq_ofNat_of_zero_le (by omega)
  have hqn : q ≤ pn A.1 := by omega
  repeat refine zr_s rfl rfl rfl ?_
  rw [hn, hq, Int.toNat_natCast]
  have fin : ∀ x : Int, (x = 0 ∨ (x = 1 ∧ m = 0 ∧ M 34 9 = 1)) → zr (zSh L) 1 tX8_cut 41 [some (zvr 34), some (zvi m)] [zvi x, zvr 34] (zup M 34 5 q) (fun v M1 => v = some (.inl (q : Int)) ∧ zMS M1 ((q, A.1.2), A.2) ∧ zFM M M1) := by
    intro x hx
    have hx01 : x = 0 ∨ x = 1 := by omega
    refine zr_putz rfl rfl rfl hx01 ?_
    have row : ∀ a, a ≠ 34 → zup (zup M 34 5 q) 34 9 x a = M a := fun a ha => by rw [zup_row ha, zup_row ha]
    have r34 : ∀ b, b ≠ 5 → b ≠ 9 → zup (zup M 34 5 q) 34 9 x 34 b = M 34 b := fun b h1 h2 => by rw [zup_off h2, zup_off h1]
    have r5 : zup (zup M 34 5 q) 34 9 x 34 5 = q := by rw [zup_off (by decide), zup_at]
    have r9 : zup (zup M 34 5 q) 34 9 x 34 9 = x := zup_at
    repeat refine zr_s rfl rfl rfl ?_
    rw [r5]
    refine zr_ret rfl ⟨rfl, ?_, fun a ha => row a (by omega)⟩
    have hwq : zWf (q, A.1.2) := ⟨show q ≤ 60 by omega, hw.2.1, hw.2.2.1, hw.2.2.2.1, fun i hi => hw.2.2.2.2 i (Nat.lt_of_lt_of_le (show i < q from hi) hqn)⟩
    refine ⟨⟨?_, hwq, by rw [r9]; omega, fun hf => ?_⟩, fun i hi => ?_, fun i hi => ?_, by rw [r34 20 (by decide) (by decide)]; exact g4, by rw [r34 21 (by decide) (by decide)]; exact g5, by rw [row 51 (by decide)]; exact g6, by rw [row 52 (by decide)]; exact g7, by rw [row 53 (by decide)]; exact g8, by rw [row 54 (by decide)]; exact g9⟩
    · obtain ⟨-, b2, b3, b4⟩ := hB
      refine ⟨r5, by rw [r34 7 (by decide) (by decide)]; exact b2, by rw [row 40 (by decide)]; exact b3, fun i hi => ?_⟩
      rw [row 35 (by decide), row 36 (by decide), row 37 (by decide), row 38 (by decide), row 39 (by decide)]
      exact b4 i (Nat.lt_of_lt_of_le (show i < q from hi) hqn)
    · rw [r9] at hf
      have hm0 : m = 0 ∧ M 34 9 = 1 := by omega
      have hqe : q = pn A.1 := by omega
      have hPe : (q, A.1.2) = A.1 := by rw [hqe]; rfl
      rw [hPe]
      have hc := hC hm0.2
      unfold zMC at hc ⊢
      unfold zDm at hc ⊢
      rw [row 41 (by decide), row 42 (by decide), row 43 (by decide), row 44 (by decide), row 45 (by decide), row 46 (by decide), row 47 (by decide), r34 17 (by decide) (by decide)]
      exact hc
    · rw [row 48 (by decide)]
      exact g2 i (Nat.lt_of_lt_of_le (show i < q from hi) hqn)
    · rw [row 48 (by decide)]
      exact g3 i (Nat.lt_of_lt_of_le (show i < q from hi) hqn)
  rw [zup_off (by decide)]
  rcases h9 with h9 | h9
  · rw [h9]
    refine zr_zeq rfl (by decide) (fun _ => ?_) (fun h => absurd rfl h)
    repeat refine zr_t 41 rfl rfl rfl rfl ?_
    exact fin 0 (Or.inl rfl)
  · rw [h9]
    refine zr_zeq rfl (by decide) (fun h => by cases h) (fun _ => ?_)
    repeat refine zr_s rfl rfl rfl ?_
    refine zr_zne rfl hm (fun h3 => ?_) (fun h3 => ?_)
    · repeat refine zr_t 41 rfl rfl rfl rfl ?_
      exact fin 0 (Or.inl rfl)
    · repeat refine zr_t 41 rfl rfl rfl rfl ?_
      exact fin 1 (Or.inr ⟨rfl, h3, h9⟩)
end ZX
