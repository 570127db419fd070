/-! THE CLASS'S OTHER CALLS -/
section ZX
variable {S : List zC} {d : Nat} {cd : List (Option zR)} {pc : Nat} {ls : List (Option zV)} {st : List zV} {M : zM} {Q : Option zV → zM → Prop}
theorem zr_look {x : Int} {dflt : Int} {ps : Array (Int × Int)} {ra rb rt : Nat} (off : Int) (hc : cd[pc]? = some (some (.lookupswitch dflt ps, ra, rb, rt))) (hx : zI x) (ho : Op.lookupswitch.offset ps.toList dflt x = off) (k : zr S d cd (ztgt pc off) ls st M Q) : zr S d cd pc ls (.inl x :: st) M Q := by
  have hwx := zwid hx.1 hx.2
  refine zWp_step hc rfl (s2 := (ztgt pc off, ls, st, S, M)) ?_ k
  show some (ztgt pc (Op.lookupswitch.offset ps.toList dflt (zw x)), ls, st, S, M) = _
  rw [hwx, ho]
end ZX
section ZX
variable {L : Nat} {M M1 : zM} {P : zP} {A : zA}
theorem zCI_eq (e : ∀ q, (1 ≤ q ∧ q ≤ 21) ∨ q = 25 ∨ q = 33 → M1 q = M q) (h : zCI M P) : zCI M1 P := by
  have e1 := e 1 (by omega); have e2 := e 2 (by omega); have e3 := e 3 (by omega); have e4 := e 4 (by omega); have e5 := e 5 (by omega); have e6 := e 6 (by omega); have e7 := e 7 (by omega); have e8 := e 8 (by omega)
  have e9 := e 9 (by omega); have e10 := e 10 (by omega); have e11 := e 11 (by omega); have e12 := e 12 (by omega); have e14 := e 14 (by omega); have e15 := e 15 (by omega); have e19 := e 19 (by omega); have e21 := e 21 (by omega)
  have e25 := e 25 (by omega); have e33 := e 33 (by omega)
  unfold zCI zCC zBk zDl at h ⊢
  rw [e1, e2, e3, e4, e5, e6, e7, e8, e9, e10, e11, e12, e14, e15, e19, e21, e25, e33]
  exact h
theorem zCS_eq (e : ∀ q, (1 ≤ q ∧ q ≤ 21) ∨ q = 25 ∨ (27 ≤ q ∧ q ≤ 30) ∨ q = 33 → M1 q = M q) (h : zCS M A) : zCS M1 A := by
  obtain ⟨h1, g2, g3, g4, g5, g6, g7, g8⟩ := h
  have e1 := e 1 (by omega); have e25 := e 25 (by omega); have e27 := e 27 (by omega); have e28 := e 28 (by omega); have e29 := e 29 (by omega); have e30 := e 30 (by omega)
  exact ⟨zCI_eq (fun q hq => e q (by omega)) h1, by rw [e25]; exact g2, by rw [e1]; exact g3, by rw [e1]; exact g4, by rw [e27]; exact g5, by rw [e28]; exact g6, by rw [e29]; exact g7, by rw [e30]; exact g8⟩
theorem sp_refreshS (hA : zCS M A) : zf (zSh L) 6 kX7_refresh [zvr 1] M (fun v M1 => v = none ∧ M1 1 9 = 0 ∧ zCS M1 A ∧ zFC M M1 ∧ M1 25 = M 25) := by
  refine zf_post (sp_refresh hA.1) (fun r M1 h => ?_)
  obtain ⟨h1, h2, h3, h4, h5, h6⟩ := h
  exact ⟨h1, h2, zCS_kept hA h3 (h4 25 (by omega)) (h4 27 (by omega)) (h4 28 (by omega)) (h4 29 (by omega)) (h4 30 (by omega)) h5 h6, ⟨h4 0 (by omega), fun a ha => h4 a (by omega)⟩, h4 25 (by omega)⟩
theorem sp_inspectS (hA : zCS M A) (h9 : M 1 9 = 0) : zf (zSh L) 4 kX5_inspect [zvr 24] M (fun v M1 => v = some (.inl (zver A.1 A.2.1).1) ∧ zCS M1 A ∧ zFC M M1 ∧ M1 1 9 = 0 ∧ M1 24 1 = (zver A.1 A.2.1).2.1 ∧ M1 24 2 = (zver A.1 A.2.1).2.2 ∧ zI (zver A.1 A.2.1).1 ∧ ((zver A.1 A.2.1).1 = 0 → ∀ i, i < pn A.1 → M1 25 i ≠ -3)) := by
  have hC := hA.1
  refine zf_post (sp_inspect hC.1 hC.2.1 ((hC.2.2.2.2.2.2.2.2.2.1) h9).1 hC.2.2.2.1) (fun r M1 h => ?_)
  obtain ⟨r, a, b, h1, h2, h3, h4, h5⟩ := h
  have hv := zver_eq (zVd_congr (fun i hi => hA.2.1 i hi) h2)
  rw [hv]
  exact ⟨h1, zCS_eq (fun q hq => h3 q (by omega)) hA, ⟨h3 0 (by decide), fun q hq => h3 q (by omega)⟩, by rw [h3 1 (by decide)]; exact h9, h4, h5, by rcases h2 with ⟨r1, -⟩ | ⟨r1, -⟩ | ⟨r1, -⟩ | ⟨r1, -⟩ <;> (rw [r1]; dsimp only; decide), fun h => by
    have h : r = 0 := h
    rw [h3 25 (by decide)]
    rcases h2 with ⟨r1, -⟩ | ⟨r1, r2, -⟩ | ⟨r1, r2, -⟩ | ⟨r1, r2, -⟩
    · omega
    · exact r2
    · exact r2
    · exact r2⟩
theorem zFC_tr {M2 : zM} (h : zFC M M1) (h2 : zFC M1 M2) : zFC M M2 := ⟨by rw [h2.1, h.1], fun a ha => by rw [h2.2 a ha, h.2 a ha]⟩
theorem zFC_rf : zFC M M := ⟨rfl, fun _ _ => rfl⟩
theorem sp_C_cut {m : Int} (hA : zCS M A) (hm : zI m) : zf (zSh L) 2 kX7_cut [zvr 1, zvi m] M (fun v M1 => v = some (.inl (zs_cut A m).1) ∧ zCS M1 (zs_cut A m).2 ∧ zFC M M1) := by
  have hA0 := hA
  obtain ⟨hC, g2, g3, g4, g5, g6, g7, g8⟩ := hA
  have hC0 := hC
  obtain ⟨hB, hw, c3, c4, c5, c6, c7, c8, c9, c10, c11⟩ := hC
  have h60 := hw.1
  have hn := hB.1
  have bad : (m < 0 ∨ (pn A.1 : Int) < m) → zr (zSh L) 1 tX7_cut 15 [some (zvr 1), some (zvi m)] [] M (fun v M1 => v = some (.inl (zs_cut A m).1) ∧ zCS M1 (zs_cut A m).2 ∧ zFC M M1) := fun h => by
    repeat refine zr_s rfl rfl rfl ?_
    refine zr_ret rfl ?_
    unfold zs_cut
    rw [if_pos h]
    exact ⟨rfl, hA0, zFC_rf⟩
  refine zf_of rfl (Nat.le_of_ble_eq_true rfl) ?_
  repeat refine zr_s rfl rfl rfl ?_
  refine zr_zlt rfl hm (fun h => bad (Or.inl h)) (fun h => ?_)
  repeat refine zr_s rfl rfl rfl ?_
  refine zr_ile rfl hm (by omega) (fun h2 => ?_) (fun h2 => ?_)
  rotate_left
  · exact bad (Or.inr (by omega))
  unfold zs_cut
  rw [if_neg (by omega)]
  repeat refine zr_s rfl rfl rfl ?_
  have e26 : zup M 1 9 1 2 6 = pn A.1 := by rw [zup_row (by decide)]; exact hn
  rw [e26, zup_at]
  obtain ⟨q, hq⟩ : ∃ q : Nat, (pn A.1 : Int) - m = q := Int.eq_ofNat_of_zero_le (by omega)
  rw [hq]
  refine zr_c rfl rfl rfl (zf_mono (Nat.le_of_ble_eq_true rfl) (sp_forgetFrom (m := q) (by omega))) (fun v M1 hv => ?_)
  obtain ⟨rfl, r1, r2, r3⟩ := hv
  repeat refine zr_s rfl rfl rfl ?_
  have row : ∀ a, a ≠ 1 → a ≠ 2 → a ≠ 25 → M1 a = M a := fun a h1 h2 h3 => by rw [r1 a h3, zup_row h2, zup_row h1]
  have e2 : M1 2 6 = q := by rw [r1 2 (by decide), zup_at]
  have e27 : M1 2 7 = M 2 7 := by rw [r1 2 (by decide), zup_off (by decide), zup_row (by decide)]
  have e1 : ∀ b, b ≠ 9 → M1 1 b = M 1 b := fun b hb => by rw [r1 1 (by decide), zup_row (by decide), zup_off hb]
  have e19 : M1 1 9 = 1 := by rw [r1 1 (by decide), zup_row (by decide), zup_at]
  have x25 : ∀ i, i < q → M1 25 i = M 25 i := fun i hi => by rw [r2 i hi, zup_row (by decide), zup_row (by decide)]
  rw [e2]
  refine zr_ret rfl ⟨rfl, ?_, row 0 (by decide) (by decide) (by decide), fun a ha => row a (by omega) (by omega) (by omega)⟩
  rw [Int.toNat_natCast]
  have hqn : q ≤ pn A.1 := by omega
  have hwq : zWf (q, A.1.2) := ⟨show q ≤ 60 by omega, hw.2.1, hw.2.2.1, hw.2.2.2.1, fun i hi => hw.2.2.2.2 i (Nat.lt_of_lt_of_le (show i < q from hi) hqn)⟩
  have hBq : zBk M1 (q, A.1.2) := by
    obtain ⟨-, b2, b3, b4⟩ := hB
    refine ⟨e2, by rw [e27]; exact b2, by rw [row 8 (by decide) (by decide) (by decide)]; exact b3, fun i hi => ?_⟩
    rw [row 3 (by decide) (by decide) (by decide), row 4 (by decide) (by decide) (by decide), row 5 (by decide) (by decide) (by decide), row 6 (by decide) (by decide) (by decide), row 7 (by decide) (by decide) (by decide)]
    exact b4 i (Nat.lt_of_lt_of_le (show i < q from hi) hqn)
  refine ⟨?_, fun i hi => ?_, by rw [e1 12 (by decide)]; exact g3, by rw [e1 13 (by decide)]; exact g4, by rw [row 27 (by decide) (by decide) (by decide)]; exact g5, by rw [row 28 (by decide) (by decide) (by decide)]; exact g6, by rw [row 29 (by decide) (by decide) (by decide)]; exact g7, by rw [row 30 (by decide) (by decide) (by decide)]; exact g8⟩
  · refine zCI_stale hC0 hBq hwq (row 33 (by decide) (by decide) (by decide)) (fun i hi => ?_) (fun i h1 h2 => r3 i h1 h2) (row 19 (by decide) (by decide) (by decide)) (row 21 (by decide) (by decide) (by decide)) e19 (e1 10 (by decide))
    have hi : i < q := hi
    rw [x25 i hi]
    exact c4 i (by omega)
  · have hi : i < q := hi
    rw [x25 i hi]
    exact g2 i (by omega)
theorem sp_C_latency {k c : Int} (hA : zCS M A) (hk : zI k) (hc : zI c) : zf (zSh L) 2 kX7_latency [zvr 1, zvi k, zvi c] M (fun v M1 => v = some (.inl (zs_latency A k c).1) ∧ zCS M1 (zs_latency A k c).2 ∧ zFC M M1) := by
  have hA0 := hA
  obtain ⟨hC, g2, g3, g4, g5, g6, g7, g8⟩ := hA
  have hC0 := hC
  obtain ⟨hB, hw, c3, c4, c5, c6, c7, c8, c9, c10, c11⟩ := hC
  have bad : (k < 0 ∨ 6 < k ∨ c < 1 ∨ 12 < c) → zr (zSh L) 1 tX7_latency 18 [some (zvr 1), some (zvi k), some (zvi c), none] [] M (fun v M1 => v = some (.inl (zs_latency A k c).1) ∧ zCS M1 (zs_latency A k c).2 ∧ zFC M M1) := fun h => by
    repeat refine zr_s rfl rfl rfl ?_
    refine zr_ret rfl ?_
    unfold zs_latency
    rw [if_pos h]
    exact ⟨rfl, hA0, zFC_rf⟩
  refine zf_of rfl (Nat.le_of_ble_eq_true rfl) ?_
  repeat refine zr_s rfl rfl rfl ?_
  refine zr_cr rfl rfl rfl (zf_mono (Nat.le_of_ble_eq_true rfl) (sp_isKind hk)) ?_
  by_cases h1 : 0 ≤ k ∧ k < 7
  rotate_left
  · rw [zb_f (by simpa using h1)]
    exact zr_zeq rfl (by decide) (fun _ => bad (by omega)) (fun h => absurd rfl h)
  rw [zb_t (by simpa using h1)]
  refine zr_zeq rfl (by decide) (fun h => by cases h) (fun _ => ?_)
  repeat refine zr_s rfl rfl rfl ?_
  refine zr_ilt rfl hc (by decide) (fun h => bad (by omega)) (fun h2 => ?_)
  repeat refine zr_s rfl rfl rfl ?_
  refine zr_ile rfl hc (by decide) (fun h3 => ?_) (fun h => bad (by omega))
  unfold zs_latency
  rw [if_neg (by omega)]
  obtain ⟨q, hq⟩ : ∃ q : Nat, k = q := Int.eq_ofNat_of_zero_le (by omega)
  subst hq
  rw [Int.toNat_natCast]
  repeat refine zr_s rfl rfl rfl ?_
  refine zr_ald (q) rfl rfl rfl (by omega) (by decide) ?_
  repeat refine zr_s rfl rfl rfl ?_
  refine zr_ast (q) rfl rfl rfl (by omega) (by decide) ?_
  repeat refine zr_s rfl rfl rfl ?_
  rw [zup_row (by decide)]
  have row : ∀ a, a ≠ 1 → a ≠ 8 → zup (zup M 1 9 1) 8 q c a = M a := fun a h1 h2 => by rw [zup_row h2, zup_row h1]
  have e1 : ∀ b, b ≠ 9 → zup (zup M 1 9 1) 8 q c 1 b = M 1 b := fun b hb => by rw [zup_row (by decide), zup_off hb]
  have e19 : zup (zup M 1 9 1) 8 q c 1 9 = 1 := by rw [zup_row (by decide), zup_at]
  have e8 : ∀ x, zup (zup M 1 9 1) 8 q c 8 x = if x = q then c else M 8 x := fun x => by
    by_cases h : x = q
    · rw [if_pos h, h, zup_at]
    · rw [if_neg h, zup_off h, zup_row (by decide)]
  refine zr_ret rfl ⟨by rw [hB.2.2.1 q (by omega)], ?_, row 0 (by decide) (by decide), fun a ha => row a (by omega) (by omega)⟩
  have hwq : zWf (pn A.1, pu A.1, pK A.1, pT A.1, pA A.1, pB A.1, pC A.1, zfn (pq A.1) q c.toNat) := by
    refine ⟨hw.1, hw.2.1, hw.2.2.1, fun x hx => ?_, hw.2.2.2.2⟩
    show 1 ≤ zfn (pq A.1) q c.toNat x ∧ zfn (pq A.1) q c.toNat x ≤ 12
    unfold zfn
    split
    · omega
    · exact hw.2.2.2.1 x hx
  refine ⟨?_, by rw [row 25 (by decide) (by decide)]; exact g2, by rw [e1 12 (by decide)]; exact g3, by rw [e1 13 (by decide)]; exact g4, by rw [row 27 (by decide) (by decide)]; exact g5, by rw [row 28 (by decide) (by decide)]; exact g6, by rw [row 29 (by decide) (by decide)]; exact g7, by rw [row 30 (by decide) (by decide)]; exact g8⟩
  refine zCI_stale hC0 ?_ hwq (row 33 (by decide) (by decide)) (by rw [row 25 (by decide) (by decide)]; exact c4) (by rw [row 25 (by decide) (by decide)]; exact c5) (row 19 (by decide) (by decide)) (row 21 (by decide) (by decide)) e19 (e1 10 (by decide))
  obtain ⟨b1, b2, b3, b4⟩ := hB
  refine ⟨by rw [row 2 (by decide) (by decide)]; exact b1, by rw [row 2 (by decide) (by decide)]; exact b2, fun x hx => ?_, fun i hi => by rw [row 3 (by decide) (by decide), row 4 (by decide) (by decide), row 5 (by decide) (by decide), row 6 (by decide) (by decide), row 7 (by decide) (by decide)]; exact b4 i hi⟩
  rw [e8]
  show _ = ((zfn (pq A.1) q c.toNat x : Nat) : Int)
  unfold zfn
  by_cases h : x = q
  · rw [if_pos h, if_pos h]
    omega
  · rw [if_neg h, if_neg h]
    exact b3 x hx
theorem sp_C_units {m : Int} (hA : zCS M A) (hm : zI m) : zf (zSh L) 2 kX7_units [zvr 1, zvi m] M (fun v M1 => v = some (.inl (zs_units A m).1) ∧ zCS M1 (zs_units A m).2 ∧ zFC M M1) := by
  have hA0 := hA
  obtain ⟨hC, g2, g3, g4, g5, g6, g7, g8⟩ := hA
  have hC0 := hC
  obtain ⟨hB, hw, c3, c4, c5, c6, c7, c8, c9, c10, c11⟩ := hC
  have bad : (m < 1 ∨ 8 < m) → zr (zSh L) 1 tX7_units 11 [some (zvr 1), some (zvi m), none] [] M (fun v M1 => v = some (.inl (zs_units A m).1) ∧ zCS M1 (zs_units A m).2 ∧ zFC M M1) := fun h => by
    repeat refine zr_s rfl rfl rfl ?_
    refine zr_ret rfl ?_
    unfold zs_units
    rw [if_pos h]
    exact ⟨rfl, hA0, zFC_rf⟩
  refine zf_of rfl (Nat.le_of_ble_eq_true rfl) ?_
  repeat refine zr_s rfl rfl rfl ?_
  refine zr_ilt rfl hm (by decide) (fun h => bad (by omega)) (fun h2 => ?_)
  repeat refine zr_s rfl rfl rfl ?_
  refine zr_ile rfl hm (by decide) (fun h3 => ?_) (fun h => bad (by omega))
  unfold zs_units
  rw [if_neg (by omega)]
  repeat refine zr_s rfl rfl rfl ?_
  rw [zup_row (by decide)]
  have row : ∀ a, a ≠ 1 → a ≠ 2 → zup (zup M 1 9 1) 2 7 m a = M a := fun a h1 h2 => by rw [zup_row h2, zup_row h1]
  have e1 : ∀ b, b ≠ 9 → zup (zup M 1 9 1) 2 7 m 1 b = M 1 b := fun b hb => by rw [zup_row (by decide), zup_off hb]
  have e19 : zup (zup M 1 9 1) 2 7 m 1 9 = 1 := by rw [zup_row (by decide), zup_at]
  obtain ⟨q, hq⟩ : ∃ q : Nat, m = q := Int.eq_ofNat_of_zero_le (by omega)
  subst hq
  refine zr_ret rfl ⟨by rw [hB.2.1], ?_, row 0 (by decide) (by decide), fun a ha => row a (by omega) (by omega)⟩
  rw [Int.toNat_natCast]
  have hwq : zWf (pn A.1, q, A.1.2.2) := ⟨hw.1, show 1 ≤ q by omega, show q ≤ 8 by omega, hw.2.2.2.1, hw.2.2.2.2⟩
  refine ⟨?_, by rw [row 25 (by decide) (by decide)]; exact g2, by rw [e1 12 (by decide)]; exact g3, by rw [e1 13 (by decide)]; exact g4, by rw [row 27 (by decide) (by decide)]; exact g5, by rw [row 28 (by decide) (by decide)]; exact g6, by rw [row 29 (by decide) (by decide)]; exact g7, by rw [row 30 (by decide) (by decide)]; exact g8⟩
  refine zCI_stale hC0 ?_ hwq (row 33 (by decide) (by decide)) (by rw [row 25 (by decide) (by decide)]; exact c4) (by rw [row 25 (by decide) (by decide)]; exact c5) (row 19 (by decide) (by decide)) (row 21 (by decide) (by decide)) e19 (e1 10 (by decide))
  obtain ⟨b1, b2, b3, b4⟩ := hB
  exact ⟨by rw [zup_off (by decide), zup_row (by decide)]; exact b1, zup_at, by rw [row 8 (by decide) (by decide)]; exact b3, fun i hi => by rw [row 3 (by decide) (by decide), row 4 (by decide) (by decide), row 5 (by decide) (by decide), row 6 (by decide) (by decide), row 7 (by decide) (by decide)]; exact b4 i hi⟩
theorem sp_C_delay {i j : Int} (hA : zCS M A) (hi : zI i) (hj : zI j) : zf (zSh L) 7 kX7_delay [zvr 1, zvi i, zvi j] M (fun v M1 => v = some (.inl (zs_delay A i j)) ∧ zCS M1 A ∧ zFC M M1) := by
  have hB := hA.1.1
  have hw := hA.1.2.1
  have h60 := hw.1
  have bad : ¬ (zin' A.1 i ∧ zin' A.1 j) → zr (zSh L) 6 tX7_delay 22 [some (zvr 1), some (zvi i), some (zvi j)] [] M (fun v M1 => v = some (.inl (zs_delay A i j)) ∧ zCS M1 A ∧ zFC M M1) := fun h => by
    repeat refine zr_s rfl rfl rfl ?_
    refine zr_ret rfl ?_
    unfold zs_delay
    rw [if_neg h]
    exact ⟨rfl, hA, zFC_rf⟩
  refine zf_of rfl (Nat.le_of_ble_eq_true rfl) ?_
  repeat refine zr_s rfl rfl rfl ?_
  refine zr_cr rfl rfl rfl (zf_mono (Nat.le_of_ble_eq_true rfl) (sp_holds hB hw hi)) ?_
  by_cases h1 : 0 ≤ i ∧ i < pn A.1
  rotate_left
  · rw [zb_f (by simpa using h1)]
    exact zr_zeq rfl (by decide) (fun _ => bad (fun z => h1 z.1)) (fun h => absurd rfl h)
  rw [zb_t (by simpa using h1)]
  refine zr_zeq rfl (by decide) (fun h => by cases h) (fun _ => ?_)
  repeat refine zr_s rfl rfl rfl ?_
  refine zr_cr rfl rfl rfl (zf_mono (Nat.le_of_ble_eq_true rfl) (sp_holds hB hw hj)) ?_
  by_cases h2 : 0 ≤ j ∧ j < pn A.1
  rotate_left
  · rw [zb_f (by simpa using h2)]
    exact zr_zne rfl (by decide) (fun h => absurd rfl h) (fun _ => bad (fun z => h2 z.2))
  rw [zb_t (by simpa using h2)]
  refine zr_zne rfl (by decide) (fun _ => ?_) (fun h => by cases h)
  unfold zs_delay
  rw [if_pos (show zin' A.1 i ∧ zin' A.1 j from ⟨h1, h2⟩)]
  obtain ⟨a, rfl⟩ := Int.eq_ofNat_of_zero_le h1.1
  obtain ⟨b, rfl⟩ := Int.eq_ofNat_of_zero_le h2.1
  rw [Int.toNat_natCast, Int.toNat_natCast]
  repeat refine zr_s rfl rfl rfl ?_
  refine zr_c rfl rfl rfl (zf_mono (Nat.le_of_ble_eq_true rfl) (sp_refreshS hA)) (fun v M1 hv => ?_)
  obtain ⟨rfl, h9, hA1, hF, -⟩ := hv
  repeat refine zr_s rfl rfl rfl ?_
  refine zr_cr rfl rfl rfl (zf_mono (Nat.le_of_ble_eq_true rfl) (sp_between hw (hA1.1.2.2.2.2.2.2.2.2.2.1 h9).1 (by omega) (by omega))) ?_
  exact zr_ret rfl (⟨rfl, hA1, hF⟩)
theorem sp_C_listed {i : Int} (hA : zCS M A) (hi : zI i) : zf (zSh L) 7 kX7_listed [zvr 1, zvi i] M (fun v M1 => v = some (.inl (zs_listed A i)) ∧ zCS M1 A ∧ zFC M M1) := by
  have hB := hA.1.1
  have hw := hA.1.2.1
  have h60 := hw.1
  refine zf_of rfl (Nat.le_of_ble_eq_true rfl) ?_
  repeat refine zr_s rfl rfl rfl ?_
  refine zr_cr rfl rfl rfl (zf_mono (Nat.le_of_ble_eq_true rfl) (sp_holds hB hw hi)) ?_
  by_cases h1 : 0 ≤ i ∧ i < pn A.1
  rotate_left
  · rw [zb_f (by simpa using h1)]
    refine zr_zne rfl (by decide) (fun h => absurd rfl h) (fun _ => ?_)
    repeat refine zr_s rfl rfl rfl ?_
    refine zr_ret rfl ?_
    unfold zs_listed
    rw [if_neg (show ¬ zin' A.1 i from h1)]
    exact ⟨rfl, hA, zFC_rf⟩
  rw [zb_t (by simpa using h1)]
  refine zr_zne rfl (by decide) (fun _ => ?_) (fun h => by cases h)
  unfold zs_listed
  rw [if_pos (show zin' A.1 i from h1)]
  obtain ⟨a, rfl⟩ := Int.eq_ofNat_of_zero_le h1.1
  rw [Int.toNat_natCast]
  repeat refine zr_s rfl rfl rfl ?_
  refine zr_c rfl rfl rfl (zf_mono (Nat.le_of_ble_eq_true rfl) (sp_refreshS hA)) (fun v M1 hv => ?_)
  obtain ⟨rfl, h9, hA1, hF, -⟩ := hv
  repeat refine zr_s rfl rfl rfl ?_
  refine zr_ald (a) rfl rfl rfl (by omega) (by decide) ?_
  obtain ⟨k1, k2, k3, k4, k5, k6, k7, k8, k9, k10⟩ := hA1.1.2.2.2.2.2.2.2.2.2.1 h9
  rw [k8 a (by omega)]
  exact zr_ret rfl (⟨rfl, hA1, hF⟩)
theorem sp_C_about {i w : Int} (hA : zCS M A) (hi : zI i) (hwI : zI w) : zf (zSh L) 7 kX7_about [zvr 1, zvi i, zvi w] M (fun v M1 => v = some (.inl (zs_about A i w)) ∧ zCS M1 A ∧ zFC M M1) := by
  have hB := hA.1.1
  have hw := hA.1.2.1
  have h60 := hw.1
  refine zf_of rfl (Nat.le_of_ble_eq_true rfl) ?_
  repeat refine zr_s rfl rfl rfl ?_
  refine zr_cr rfl rfl rfl (zf_mono (Nat.le_of_ble_eq_true rfl) (sp_holds hB hw hi)) ?_
  by_cases h1 : 0 ≤ i ∧ i < pn A.1
  rotate_left
  · rw [zb_f (by simpa using h1)]
    refine zr_zne rfl (by decide) (fun h => absurd rfl h) (fun _ => ?_)
    repeat refine zr_s rfl rfl rfl ?_
    refine zr_ret rfl ?_
    unfold zs_about
    rw [if_neg (show ¬ zin' A.1 i from h1)]
    exact ⟨rfl, hA, zFC_rf⟩
  rw [zb_t (by simpa using h1)]
  refine zr_zne rfl (by decide) (fun _ => ?_) (fun h => by cases h)
  unfold zs_about
  rw [if_pos (show zin' A.1 i from h1)]
  obtain ⟨a, rfl⟩ := Int.eq_ofNat_of_zero_le h1.1
  rw [Int.toNat_natCast]
  have ha : a < pn A.1 := by omega
  repeat refine zr_s rfl rfl rfl ?_
  refine zr_c rfl rfl rfl (zf_mono (Nat.le_of_ble_eq_true rfl) (sp_refreshS hA)) (fun v M1 hv => ?_)
  obtain ⟨rfl, h9, hA1, hF, -⟩ := hv
  obtain ⟨k1, k2, k3, k4, k5, k6, k7, k8, k9, k10⟩ := hA1.1.2.2.2.2.2.2.2.2.2.1 h9
  repeat refine zr_s rfl rfl rfl ?_
  by_cases hr : 0 ≤ w ∧ w ≤ 6
  rotate_left
  · refine zr_tabOut rfl hwI (by omega) ?_
    repeat refine zr_s rfl rfl rfl ?_
    refine zr_ret rfl ?_
    rw [if_neg (by omega), if_neg (by omega), if_neg (by omega), if_neg (by omega), if_neg (by omega), if_neg (by omega), if_neg (by omega)]
    exact ⟨rfl, hA1, hF⟩
  have hc : w = 0 ∨ w = 1 ∨ w = 2 ∨ w = 3 ∨ w = 4 ∨ w = 5 ∨ w = 6 := by omega
  rcases hc with rfl | rfl | rfl | rfl | rfl | rfl | rfl
  · refine zr_tabIn 42 rfl hwI (by decide) (by decide) rfl ?_
    repeat refine zr_s rfl rfl rfl ?_
    refine zr_ald (a) rfl rfl rfl (by omega) (by decide) ?_
    rw [k4 a ha]
    exact zr_ret rfl (⟨rfl, hA1, hF⟩)
  · refine zr_tabIn 52 rfl hwI (by decide) (by decide) rfl ?_
    repeat refine zr_s rfl rfl rfl ?_
    refine zr_ald (a) rfl rfl rfl (by omega) (by decide) ?_
    rw [k2 a ha]
    exact zr_ret rfl (⟨rfl, hA1, hF⟩)
  · refine zr_tabIn 62 rfl hwI (by decide) (by decide) rfl ?_
    repeat refine zr_s rfl rfl rfl ?_
    refine zr_ald (a) rfl rfl rfl (by omega) (by decide) ?_
    repeat refine zr_s rfl rfl rfl ?_
    refine zr_ald (a) rfl rfl rfl (by omega) (by decide) ?_
    repeat refine zr_s rfl rfl rfl ?_
    rw [k2 a ha, k4 a ha, k5]
    exact zr_ret rfl (⟨rfl, hA1, hF⟩)
  · refine zr_tabIn 90 rfl hwI (by decide) (by decide) rfl ?_
    repeat refine zr_s rfl rfl rfl ?_
    refine zr_ald (a) rfl rfl rfl (by omega) (by decide) ?_
    rw [k7 a ha]
    exact zr_ret rfl (⟨rfl, hA1, hF⟩)
  · refine zr_tabIn 100 rfl hwI (by decide) (by decide) rfl ?_
    repeat refine zr_s rfl rfl rfl ?_
    refine zr_ald (a) rfl rfl rfl (by omega) (by decide) ?_
    rw [k9 a ha]
    exact zr_ret rfl (⟨rfl, hA1, hF⟩)
  · refine zr_tabIn 110 rfl hwI (by decide) (by decide) rfl ?_
    repeat refine zr_s rfl rfl rfl ?_
    refine zr_ald (a) rfl rfl rfl (by omega) (by decide) ?_
    rw [k10 a ha]
    exact zr_ret rfl (⟨rfl, hA1, hF⟩)
  · refine zr_tabIn 120 rfl hwI (by decide) (by decide) rfl ?_
    repeat refine zr_s rfl rfl rfl ?_
    refine zr_ald (a) rfl rfl rfl (by omega) (by decide) ?_
    rw [hA1.2.1 a ha]
    exact zr_ret rfl (⟨rfl, hA1, hF⟩)
theorem sp_C_length {w : Int} (hA : zCS M A) (hwI : zI w) : zf (zSh L) 14 kX7_length [zvr 1, zvi w] M (fun v M1 => v = some (.inl (zs_length A w)) ∧ zCS M1 A ∧ zFC M M1) := by
  have hw := hA.1.2.1
  have h60 := hw.1
  refine zf_of rfl (Nat.le_of_ble_eq_true rfl) ?_
  repeat refine zr_s rfl rfl rfl ?_
  refine zr_c rfl rfl rfl (zf_mono (Nat.le_of_ble_eq_true rfl) (sp_refreshS hA)) (fun v M1 hv => ?_)
  obtain ⟨rfl, h9, hA1, hF, -⟩ := hv
  have hB := hA1.1.1
  obtain ⟨k1, k2, k3, k4, k5, k6, k7, k8, k9, k10⟩ := hA1.1.2.2.2.2.2.2.2.2.2.1 h9
  unfold zs_length
  repeat refine zr_s rfl rfl rfl ?_
  by_cases hr : 0 ≤ w ∧ w ≤ 7
  rotate_left
  · refine zr_tabOut rfl hwI (by omega) ?_
    repeat refine zr_s rfl rfl rfl ?_
    refine zr_ret rfl ?_
    rw [if_neg (by omega), if_neg (by omega), if_neg (by omega), if_neg (by omega), if_neg (by omega), if_neg (by omega), if_neg (by omega), if_neg (by omega)]
    exact ⟨rfl, hA1, hF⟩
  have hc : w = 0 ∨ w = 1 ∨ w = 2 ∨ w = 3 ∨ w = 4 ∨ w = 5 ∨ w = 6 ∨ w = 7 := by omega
  rcases hc with rfl | rfl | rfl | rfl | rfl | rfl | rfl | rfl
  · refine zr_tabIn 47 rfl hwI (by decide) (by decide) rfl ?_
    repeat refine zr_s rfl rfl rfl ?_
    rw [k5]
    exact zr_ret rfl (⟨rfl, hA1, hF⟩)
  · refine zr_tabIn 55 rfl hwI (by decide) (by decide) rfl ?_
    repeat refine zr_s rfl rfl rfl ?_
    refine zr_cr rfl rfl rfl (zf_mono (Nat.le_of_ble_eq_true rfl) (sp_lengthOf hB hw rfl (fun i hi => by rw [k7 i hi]; have := zcycI hw (zway A.1) i hi; omega))) ?_
    rw [zlen_congr _ k7]
    exact zr_ret rfl (⟨rfl, hA1, hF⟩)
  · refine zr_tabIn 70 rfl hwI (by decide) (by decide) rfl ?_
    repeat refine zr_s rfl rfl rfl ?_
    refine zr_cr rfl rfl rfl (zf_mono (Nat.le_of_ble_eq_true rfl) (sp_lengthOf hB hw rfl (fun i hi => by have := hA1.1.2.2.2.2.2.1 i (by omega); omega))) ?_
    rw [zlen_congr _ k9]
    exact zr_ret rfl (⟨rfl, hA1, hF⟩)
  · refine zr_tabIn 85 rfl hwI (by decide) (by decide) rfl ?_
    repeat refine zr_s rfl rfl rfl ?_
    refine zr_cr rfl rfl rfl (zf_mono (Nat.le_of_ble_eq_true rfl) (sp_lengthOf hB hw rfl (fun i hi => by have := hA1.1.2.2.2.2.2.2.1 i (by omega); omega))) ?_
    rw [zlen_congr _ k10]
    exact zr_ret rfl (⟨rfl, hA1, hF⟩)
  · refine zr_tabIn 100 rfl hwI (by decide) (by decide) rfl ?_
    repeat refine zr_s rfl rfl rfl ?_
    refine zr_c rfl rfl rfl (zf_mono (Nat.le_of_ble_eq_true rfl) (sp_shortest hA1.1 h9)) (fun v M2 hv => ?_)
    obtain ⟨rfl, q1, q2, q3, q4, q5⟩ := hv
    refine zr_ret rfl ⟨rfl, zCS_kept hA1 q1 (q3 25 (by decide) (by decide) (by decide)) (q3 27 (by decide) (by decide) (by decide)) (q3 28 (by decide) (by decide) (by decide)) (q3 29 (by decide) (by decide) (by decide)) (q3 30 (by decide) (by decide) (by decide)) q4 q5, zFC_tr hF ⟨q3 0 (by decide) (by decide) (by decide), fun a ha => q3 a (by omega) (by omega) (by omega)⟩⟩
  · refine zr_tabIn 105 rfl hwI (by decide) (by decide) rfl ?_
    repeat refine zr_s rfl rfl rfl ?_
    refine zr_c rfl rfl rfl (zf_mono (Nat.le_of_ble_eq_true rfl) (sp_inspectS hA1 h9)) (fun v M2 hv => ?_)
    obtain ⟨rfl, hA2, hF2, h92, -, -, hv, -⟩ := hv
    refine zr_zne rfl hv (fun h => ?_) (fun h => ?_)
    · repeat refine zr_s rfl rfl rfl ?_
      refine zr_ret rfl ?_
      show (some (Sum.inl (-3)) : Option zV) = some (Sum.inl (if (zver A.1 A.2.1).1 = 0 then _ else (-3 : Int))) ∧ _
      rw [if_neg h]
      exact ⟨rfl, hA2, zFC_tr hF hF2⟩
    · repeat refine zr_s rfl rfl rfl ?_
      refine zr_cr rfl rfl rfl (zf_mono (Nat.le_of_ble_eq_true rfl) (sp_lengthOf hA2.1.1 hw rfl (fun i hi => by have := hA2.1.2.2.2.1 i hi; omega))) ?_
      repeat refine zr_s rfl rfl rfl ?_
      refine zr_ret rfl ?_
      show (some (Sum.inl _) : Option zV) = some (Sum.inl (if (zver A.1 A.2.1).1 = 0 then zlen A.1 A.2.1 (pn A.1) else (-3 : Int))) ∧ _
      rw [if_pos h, zlen_congr _ hA2.2.1]
      exact ⟨rfl, hA2, zFC_tr hF hF2⟩
  · refine zr_tabIn 135 rfl hwI (by decide) (by decide) rfl ?_
    repeat refine zr_s rfl rfl rfl ?_
    rw [hB.1]
    exact zr_ret rfl (⟨rfl, hA1, hF⟩)
  · refine zr_tabIn 143 rfl hwI (by decide) (by decide) rfl ?_
    repeat refine zr_s rfl rfl rfl ?_
    rw [k6]
    exact zr_ret rfl (⟨rfl, hA1, hF⟩)
theorem sp_C_place {i c : Int} (hA : zCS M A) (hi : zI i) (hc : zI c) : zf (zSh L) 2 kX7_place [zvr 1, zvi i, zvi c] M (fun v M1 => v = some (.inl (zs_place A i c).1) ∧ zCS M1 (zs_place A i c).2 ∧ zFC M M1) := by
  have hA0 := hA
  obtain ⟨hC, g2, g3, g4, g5, g6, g7, g8⟩ := hA
  have hC0 := hC
  obtain ⟨hB, hw, c3, c4, c5, c6, c7, c8, c9, c10, c11⟩ := hC
  have h60 := hw.1
  have bad : ¬ (zin' A.1 i ∧ 0 ≤ c ∧ c ≤ 1000) → zr (zSh L) 1 tX7_place 22 [some (zvr 1), some (zvi i), some (zvi c), none] [] M (fun v M1 => v = some (.inl (zs_place A i c).1) ∧ zCS M1 (zs_place A i c).2 ∧ zFC M M1) := fun h => by
    repeat refine zr_s rfl rfl rfl ?_
    refine zr_ret rfl ?_
    unfold zs_place
    rw [if_neg h]
    exact ⟨rfl, hA0, zFC_rf⟩
  refine zf_of rfl (Nat.le_of_ble_eq_true rfl) ?_
  repeat refine zr_s rfl rfl rfl ?_
  refine zr_cr rfl rfl rfl (zf_mono (Nat.le_of_ble_eq_true rfl) (sp_holds hB hw hi)) ?_
  by_cases h1 : 0 ≤ i ∧ i < pn A.1
  rotate_left
  · rw [zb_f (by simpa using h1)]
    exact zr_zeq rfl (by decide) (fun _ => bad (fun z => h1 z.1)) (fun h => absurd rfl h)
  rw [zb_t (by simpa using h1)]
  refine zr_zeq rfl (by decide) (fun h => by cases h) (fun _ => ?_)
  repeat refine zr_s rfl rfl rfl ?_
  refine zr_zlt rfl hc (fun h => bad (fun z => by have := z.2.1; omega)) (fun h2 => ?_)
  repeat refine zr_s rfl rfl rfl ?_
  refine zr_ile rfl hc (by decide) (fun h3 => ?_) (fun h => bad (fun z => by have := z.2.2; omega))
  unfold zs_place
  rw [if_pos (show zin' A.1 i ∧ 0 ≤ c ∧ c ≤ 1000 from ⟨h1, h2, h3⟩)]
  obtain ⟨a, rfl⟩ := Int.eq_ofNat_of_zero_le h1.1
  rw [Int.toNat_natCast]
  have ha : a < pn A.1 := by omega
  repeat refine zr_s rfl rfl rfl ?_
  refine zr_ald (a) rfl rfl rfl (by omega) (by decide) ?_
  repeat refine zr_s rfl rfl rfl ?_
  refine zr_ast (a) rfl rfl rfl (by omega) (by decide) ?_
  repeat refine zr_s rfl rfl rfl ?_
  rw [g2 a ha]
  have row : ∀ q, q ≠ 25 → zup M 25 a c q = M q := fun q hq => zup_row hq
  have x25 : ∀ q, zup M 25 a c 25 q = if q = a then c else M 25 q := fun q => by
    by_cases h : q = a
    · rw [if_pos h, h, zup_at]
    · rw [if_neg h, zup_off h]
  refine zr_ret rfl ⟨rfl, ?_, row 0 (by decide), fun q hq => row q (by omega)⟩
  refine ⟨?_, fun q hq => ?_, by rw [row 1 (by decide)]; exact g3, by rw [row 1 (by decide)]; exact g4, by rw [row 27 (by decide)]; exact g5, by rw [row 28 (by decide)]; exact g6, by rw [row 29 (by decide)]; exact g7, by rw [row 30 (by decide)]; exact g8⟩
  · have hCx : zCI M A.1 → zCI (zup M 25 a c) A.1 := fun h => by
      unfold zCI zCC zBk zDl at h ⊢
      rw [row 1 (by decide), row 2 (by decide), row 3 (by decide), row 4 (by decide), row 5 (by decide), row 6 (by decide), row 7 (by decide), row 8 (by decide), row 9 (by decide), row 10 (by decide), row 11 (by decide), row 12 (by decide), row 14 (by decide), row 15 (by decide), row 19 (by decide), row 21 (by decide), row 33 (by decide)]
      refine ⟨h.1, h.2.1, h.2.2.1, fun q hq => ?_, fun q hq hq2 => ?_, h.2.2.2.2.2⟩
      · rw [x25]
        split
        · exact Or.inr ⟨h2, h3⟩
        · exact c4 q hq
      · rw [x25, if_neg (by omega)]
        exact c5 q hq hq2
    exact hCx hC0
  · rw [x25]
    show _ = zfu A.2.1 a c q
    unfold zfu
    rw [g2 q hq]
theorem sp_C_check (hA : zCS M A) : zf (zSh L) 7 kX7_check [zvr 1] M (fun v M1 => v = some (.inl (zs_check A).1) ∧ zCS M1 (zs_check A).2 ∧ zFC M M1) := by
  refine zf_of rfl (Nat.le_of_ble_eq_true rfl) ?_
  repeat refine zr_s rfl rfl rfl ?_
  refine zr_c rfl rfl rfl (zf_mono (Nat.le_of_ble_eq_true rfl) (sp_refreshS hA)) (fun v M1 hv => ?_)
  obtain ⟨rfl, h9, hA1, hF, -⟩ := hv
  repeat refine zr_s rfl rfl rfl ?_
  refine zr_c rfl rfl rfl (zf_mono (Nat.le_of_ble_eq_true rfl) (sp_inspectS hA1 h9)) (fun v M2 hv => ?_)
  obtain ⟨rfl, hA2, hF2, h92, ea, eb, -⟩ := hv
  repeat refine zr_s rfl rfl rfl ?_
  rw [ea, zup_row (by decide), eb]
  generalize hN : zup (zup M2 1 12 (zver A.1 A.2.1).2.1) 1 13 (zver A.1 A.2.1).2.2 = N
  have row : ∀ q, q ≠ 1 → N q = M2 q := fun q hq => by rw [← hN, zup_row hq, zup_row hq]
  have e1 : ∀ b, b ≠ 12 → b ≠ 13 → N 1 b = M2 1 b := fun b hb hb2 => by rw [← hN, zup_off hb2, zup_off hb]
  obtain ⟨hC, g2, g3, g4, g5, g6, g7, g8⟩ := hA2
  refine zr_ret rfl ⟨rfl, ?_, zFC_tr hF (zFC_tr hF2 ⟨row 0 (by decide), fun a ha => row a (by omega)⟩)⟩
  refine ⟨?_, by rw [row 25 (by decide)]; exact g2, by rw [← hN, zup_off (by decide), zup_at]; rfl, by rw [← hN, zup_at]; rfl, by rw [row 27 (by decide)]; exact g5, by rw [row 28 (by decide)]; exact g6, by rw [row 29 (by decide)]; exact g7, by rw [row 30 (by decide)]; exact g8⟩
  have hCx : zCI M2 A.1 → zCI N A.1 := fun h => by
    unfold zCI zCC zBk zDl at h ⊢
    rw [e1 9 (by decide) (by decide), e1 10 (by decide) (by decide), e1 11 (by decide) (by decide), row 2 (by decide), row 3 (by decide), row 4 (by decide), row 5 (by decide), row 6 (by decide), row 7 (by decide), row 8 (by decide), row 9 (by decide), row 10 (by decide), row 11 (by decide), row 12 (by decide), row 14 (by decide), row 15 (by decide), row 19 (by decide), row 21 (by decide), row 25 (by decide), row 33 (by decide)]
    exact h
  exact hCx hC
theorem sp_C_wrong {p : Int} (hA : zCS M A) (hp : zI p) : zf (zSh L) 2 kX7_wrong [zvr 1, zvi p] M (fun v M1 => v = some (.inl (zs_wrong A p)) ∧ zCS M1 A ∧ zFC M M1) := by
  obtain ⟨hC, g2, g3, g4, g5, g6, g7, g8⟩ := id hA
  unfold zs_wrong
  refine zf_of rfl (Nat.le_of_ble_eq_true rfl) ?_
  repeat refine zr_s rfl rfl rfl ?_
  by_cases h0 : p = 0
  · rw [if_pos h0]
    refine zr_look 27 rfl hp (by rw [h0]; rfl) ?_
    repeat refine zr_s rfl rfl rfl ?_
    rw [g3]
    exact zr_ret rfl (⟨rfl, hA, zFC_rf⟩)
  rw [if_neg h0]
  by_cases h1 : p = 1
  · rw [if_pos h1]
    refine zr_look 32 rfl hp (by rw [h1]; rfl) ?_
    repeat refine zr_s rfl rfl rfl ?_
    rw [g4]
    exact zr_ret rfl (⟨rfl, hA, zFC_rf⟩)
  rw [if_neg h1]
  refine zr_look 37 rfl hp ?_ ?_
  · show (if (0 : Int) = p then (27 : Int) else if (1 : Int) = p then 32 else 37) = 37
    rw [if_neg (by omega), if_neg (by omega)]
  repeat refine zr_s rfl rfl rfl ?_
  exact zr_ret rfl (⟨rfl, hA, zFC_rf⟩)
theorem sp_C_given {w k x : Int} (hA : zCS M A) (hwI : zI w) (hk : zI k) : zf (zSh L) 4 kX7_given [zvr 1, zvi w, zvi k, zvi x] M (fun v M1 => v = some (.inl (zs_given A w k x).1) ∧ zCS M1 (zs_given A w k x).2 ∧ zFC M M1) := by
  obtain ⟨hC, g2, g3, g4, g5, g6, g7, g8⟩ := id hA
  unfold zs_given
  refine zf_of rfl (Nat.le_of_ble_eq_true rfl) ?_
  repeat refine zr_s rfl rfl rfl ?_
  refine zr_c rfl rfl rfl (zf_mono (Nat.le_of_ble_eq_true rfl) (sp_tell hwI hk)) (fun v M1 hv => ?_)
  obtain ⟨t1, t2, t3⟩ := hv
  by_cases h0 : w = 0 ∧ 0 ≤ k ∧ k < 16
  · obtain ⟨rfl, rfl⟩ := t1 h0
    rw [if_pos h0, g5 k.toNat (by omega)]
    have row : ∀ q, q ≠ 27 → zup M 27 k.toNat x q = M q := fun q hq => zup_row hq
    refine zr_ret rfl ⟨rfl, ⟨zCI_eq (fun q hq => row q (by omega)) hC, by rw [row 25 (by decide)]; exact g2, by rw [row 1 (by decide)]; exact g3, by rw [row 1 (by decide)]; exact g4, fun q hq => ?_, by rw [row 28 (by decide)]; exact g6, by rw [row 29 (by decide)]; exact g7, by rw [row 30 (by decide)]; exact g8⟩, row 0 (by decide), fun a ha => row a (by omega)⟩
    show _ = zfu A.2.2.2.1.1 k.toNat x q
    by_cases h : q = k.toNat
    · rw [h, zup_at, zfu_at]
    · rw [zup_off h, zfu_off h]
      exact g5 q hq
  rw [if_neg h0]
  by_cases h1 : w = 1 ∧ 0 ≤ k ∧ k < 64
  · obtain ⟨rfl, rfl⟩ := t2 h1
    rw [if_pos h1, g6 k.toNat (by omega)]
    have row : ∀ q, q ≠ 28 → zup M 28 k.toNat x q = M q := fun q hq => zup_row hq
    refine zr_ret rfl ⟨rfl, ⟨zCI_eq (fun q hq => row q (by omega)) hC, by rw [row 25 (by decide)]; exact g2, by rw [row 1 (by decide)]; exact g3, by rw [row 1 (by decide)]; exact g4, by rw [row 27 (by decide)]; exact g5, fun q hq => ?_, by rw [row 29 (by decide)]; exact g7, by rw [row 30 (by decide)]; exact g8⟩, row 0 (by decide), fun a ha => row a (by omega)⟩
    show _ = zfu A.2.2.2.1.2 k.toNat x q
    by_cases h : q = k.toNat
    · rw [h, zup_at, zfu_at]
    · rw [zup_off h, zfu_off h]
      exact g6 q hq
  rw [if_neg h1]
  obtain ⟨rfl, rfl⟩ := t3 (by omega)
  exact zr_ret rfl (⟨rfl, hA, zFC_rf⟩)
theorem sp_C_value {w k : Int} (hA : zCS M A) (hwI : zI w) (hk : zI k) : zf (zSh L) 4 kX7_value [zvr 1, zvi w, zvi k] M (fun v M1 => v = some (.inl (zs_value A w k)) ∧ zCS M1 A ∧ zFC M M1) := by
  obtain ⟨hC, g2, g3, g4, g5, g6, g7, g8⟩ := id hA
  unfold zs_value
  refine zf_of rfl (Nat.le_of_ble_eq_true rfl) ?_
  repeat refine zr_s rfl rfl rfl ?_
  refine zr_c rfl rfl rfl (zf_mono (Nat.le_of_ble_eq_true rfl) (sp_look hwI hk)) (fun v M1 hv => ?_)
  obtain ⟨rfl, t1, t2, t3⟩ := hv
  by_cases h0 : w = 0 ∧ 0 ≤ k ∧ k < 16
  · rw [t1 h0, if_pos h0, g7 k.toNat (by omega)]
    exact zr_ret rfl (⟨rfl, hA, zFC_rf⟩)
  rw [if_neg h0]
  by_cases h1 : w = 1 ∧ 0 ≤ k ∧ k < 64
  · rw [t2 h1, if_pos h1, g8 k.toNat (by omega)]
    exact zr_ret rfl (⟨rfl, hA, zFC_rf⟩)
  rw [if_neg h1, t3 (by omega)]
  exact zr_ret rfl (⟨rfl, hA, zFC_rf⟩)
theorem zag_go0 (hA : zCS M A) : zag (M 27, M 28, fun _ => 0, fun _ => 0) (zgo0 A) := ⟨hA.2.2.2.2.1, hA.2.2.2.2.2.1, rfl⟩
theorem sp_runByPlan {c : Nat} (hA : zCS M A) (hc : (zSh L)[c]? = some (.inl 60)) (hc2 : c < 29) (hr : ∀ i, i < pn A.1 → 0 ≤ M c i ∧ M c i ≤ 1000) : zf (zSh L) 5 kX7_runByPlan [zvr 1, zvr c] M (fun v M1 => v = some (.inl (zlen A.1 (M c) (pn A.1))) ∧ zCS M1 (zset A (zrn A.1 (M c) (zgo0 A) 1013)) ∧ zFC M M1) := by
  have hw := hA.1.2.1
  refine zf_of rfl (Nat.le_of_ble_eq_true rfl) ?_
  repeat refine zr_s rfl rfl rfl ?_
  refine zr_c rfl rfl rfl (zf_mono (Nat.le_of_ble_eq_true rfl) (sp_runByCycles hA.1.1 hw hc hc2 hr)) (fun v M1 hv => ?_)
  obtain ⟨rfl, r1, r2, r3⟩ := hv
  repeat refine zr_s rfl rfl rfl ?_
  have ec : M1 c = M c := r1 c (by omega)
  refine zr_cr rfl rfl rfl (zf_mono (Nat.le_of_ble_eq_true rfl) (sp_lengthOf (P := A.1) (zBk_of hA.1.1 (fun a h1 h2 => r1 a (by omega))) hw hc (fun i hi => by rw [ec]; have := hr i hi; omega))) ?_
  rw [ec]
  obtain ⟨hC, g2, g3, g4, g5, g6, g7, g8⟩ := id hA
  have hag := zag_rn (w := M c) hw (zag_go0 hA) 1013
  exact zr_ret rfl (⟨rfl, ⟨zCI_eq (fun q hq => r1 q (by omega)) hC, by rw [r1 25 (by omega)]; exact g2, by rw [r1 1 (by omega)]; exact g3, by rw [r1 1 (by omega)]; exact g4, by rw [r1 27 (by omega)]; exact g5, by rw [r1 28 (by omega)]; exact g6, fun k hk => by rw [r2 k hk]; exact hag.1 k hk, fun k hk => by rw [r3 k hk]; exact hag.2.1 k hk⟩, r1 0 (by omega), fun a ha => r1 a (by omega)⟩)
theorem sp_C_run {h : Int} (hA : zCS M A) (hI : zI h) : zf (zSh L) 7 kX7_run [zvr 1, zvi h] M (fun v M1 => v = some (.inl (zs_run A h).1) ∧ zCS M1 (zs_run A h).2 ∧ zFC M M1) := by
  have hw := hA.1.2.1
  have h60 := hw.1
  refine zf_of rfl (Nat.le_of_ble_eq_true rfl) ?_
  repeat refine zr_s rfl rfl rfl ?_
  refine zr_c rfl rfl rfl (zf_mono (Nat.le_of_ble_eq_true rfl) (sp_refreshS hA)) (fun v M1 hv => ?_)
  obtain ⟨rfl, h9, hA1, hF, -⟩ := hv
  have hB := hA1.1.1
  obtain ⟨k1, k2, k3, k4, k5, k6, k7, k8, k9, k10⟩ := hA1.1.2.2.2.2.2.2.2.2.2.1 h9
  unfold zs_run
  repeat refine zr_s rfl rfl rfl ?_
  by_cases hr : 0 ≤ h ∧ h ≤ 2
  rotate_left
  · refine zr_tabOut rfl hI (by omega) ?_
    repeat refine zr_s rfl rfl rfl ?_
    refine zr_ret rfl ?_
    rw [if_neg (by omega), if_neg (by omega), if_neg (by omega)]
    exact ⟨rfl, hA1, hF⟩
  have hc : h = 0 ∨ h = 1 ∨ h = 2 := by omega
  rcases hc with rfl | rfl | rfl
  · refine zr_tabIn 27 rfl hI (by decide) (by decide) rfl ?_
    repeat refine zr_s rfl rfl rfl ?_
    refine zr_c rfl rfl rfl (zf_mono (Nat.le_of_ble_eq_true rfl) (sp_runAsItStands hB hw)) (fun v M2 hv => ?_)
    obtain ⟨rfl, r1, r2, r3⟩ := hv
    repeat refine zr_s rfl rfl rfl ?_
    have ec : M2 19 = M1 19 := r1 19 (by omega)
    refine zr_cr rfl rfl rfl (zf_mono (Nat.le_of_ble_eq_true rfl) (sp_lengthOf (P := A.1) (zBk_of hB (fun a h1 h2 => r1 a (by omega))) hw rfl (fun i hi => by rw [ec]; have := hA1.1.2.2.2.2.2.1 i (by omega); omega))) ?_
    rw [ec, zlen_congr _ k9]
    obtain ⟨hC, g2, g3, g4, g5, g6, g7, g8⟩ := id hA1
    have hag := zag_st hw (zag_go0 hA1) (pn A.1) (Nat.le_refl _)
    exact zr_ret rfl (⟨rfl, ⟨zCI_eq (fun q hq => r1 q (by omega)) hC, by rw [r1 25 (by omega)]; exact g2, by rw [r1 1 (by omega)]; exact g3, by rw [r1 1 (by omega)]; exact g4, by rw [r1 27 (by omega)]; exact g5, by rw [r1 28 (by omega)]; exact g6, fun k hk => by rw [r2 k hk]; exact hag.1 k hk, fun k hk => by rw [r3 k hk]; exact hag.2.1 k hk⟩, zFC_tr hF ⟨r1 0 (by omega), fun a ha => r1 a (by omega)⟩⟩)
  · refine zr_tabIn 49 rfl hI (by decide) (by decide) rfl ?_
    repeat refine zr_s rfl rfl rfl ?_
    refine zr_c rfl rfl rfl (zf_mono (Nat.le_of_ble_eq_true rfl) (sp_runByPlan (c := 14) hA1 rfl (by decide) (fun i hi => by rw [k7 i hi]; have := zcycI hw (zway A.1) i hi; omega))) (fun v M2 hv => ?_)
    obtain ⟨rfl, hA2, hF2⟩ := hv
    rw [zrn_congr k7] at hA2
    rw [zlen_congr _ k7]
    exact zr_ret rfl (⟨rfl, hA2, zFC_tr hF hF2⟩)
  · refine zr_tabIn 61 rfl hI (by decide) (by decide) rfl ?_
    repeat refine zr_s rfl rfl rfl ?_
    refine zr_c rfl rfl rfl (zf_mono (Nat.le_of_ble_eq_true rfl) (sp_inspectS hA1 h9)) (fun v M2 hv => ?_)
    obtain ⟨rfl, hA2, hF2, h92, -, -, hv, hok⟩ := hv
    have hg : (if (2 : Int) = 0 then (zlen A.1 (zio A.1 (fun k => k) (pn A.1)).1 (pn A.1), zset A (zst A.1 (zgo0 A) (pn A.1))) else if (2 : Int) = 1 then (zlen A.1 (zls A.1 (zway A.1) (pn A.1)).1 (pn A.1), zset A (zrn A.1 (zls A.1 (zway A.1) (pn A.1)).1 (zgo0 A) 1013)) else if (2 : Int) = 2 then (if (zver A.1 A.2.1).1 = 0 then (zlen A.1 A.2.1 (pn A.1), zset A (zrn A.1 A.2.1 (zgo0 A) 1013)) else (-3, A)) else (-1, A)) = if (zver A.1 A.2.1).1 = 0 then (zlen A.1 A.2.1 (pn A.1), zset A (zrn A.1 A.2.1 (zgo0 A) 1013)) else (-3, A) := by
      rw [if_neg (by decide), if_neg (by decide), if_pos rfl]
    rw [hg]
    refine zr_zne rfl hv (fun h => ?_) (fun h => ?_)
    · rw [if_neg h]
      repeat refine zr_s rfl rfl rfl ?_
      exact zr_ret rfl (⟨rfl, hA2, zFC_tr hF hF2⟩)
    · rw [if_pos h]
      repeat refine zr_s rfl rfl rfl ?_
      refine zr_c rfl rfl rfl (zf_mono (Nat.le_of_ble_eq_true rfl) (sp_runByPlan (c := 25) hA2 rfl (by decide) (fun i hi => by have := hA2.1.2.2.2.1 i hi; have := hok h i hi; omega))) (fun v M3 hv => ?_)
      obtain ⟨rfl, hA3, hF3⟩ := hv
      rw [zrn_congr hA2.2.1] at hA3
      rw [zlen_congr _ hA2.2.1]
      repeat refine zr_s rfl rfl rfl ?_
      exact zr_ret rfl (⟨rfl, hA3, zFC_tr hF (zFC_tr hF2 hF3)⟩)
end ZX
