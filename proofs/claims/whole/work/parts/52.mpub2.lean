/-! THE REFERENCE'S CALLS: latency, units, delay, about, listed -/
def ymx (f : Nat → Int) : Nat → Int
  | 0 => 0
  | m + 1 => max (ymx f m) (f m)
theorem ymx_le {f : Nat → Int} {x : Int} : ∀ m, ymx f m ≤ x ↔ 0 ≤ x ∧ ∀ j, j < m → f j ≤ x
  | 0 => by
    show (0 : Int) ≤ x ↔ _
    exact ⟨fun h => ⟨h, fun j hj => by omega⟩, fun h => h.1⟩
  | m + 1 => by
    have ih := ymx_le (f := f) (x := x) m
    show max (ymx f m) (f m) ≤ x ↔ _
    constructor
    · intro h
      have h2 := ih.mp (by omega)
      refine ⟨h2.1, fun j hj => ?_⟩
      by_cases hjm : j = m
      · subst hjm
        omega
      · exact h2.2 j (by omega)
    · intro h
      have h2 := ih.mpr ⟨h.1, fun j hj => h.2 j (by omega)⟩
      have h3 := h.2 m (by omega)
      omega
theorem zmxr_le {f : Nat → Int} {x : Int} : ∀ (m a : Nat), zmxr f a m ≤ x ↔ 0 ≤ x ∧ ∀ j, a ≤ j → j < a + m → f j ≤ x
  | 0, a => by
    show (0 : Int) ≤ x ↔ _
    exact ⟨fun h => ⟨h, fun j h1 h2 => by omega⟩, fun h => h.1⟩
  | m + 1, a => by
    have ih := zmxr_le (f := f) (x := x) m (a + 1)
    show max (zmxr f (a + 1) m) (f a) ≤ x ↔ _
    constructor
    · intro h
      have h2 := ih.mp (by omega)
      refine ⟨h2.1, fun j h3 h4 => ?_⟩
      by_cases hja : j = a
      · subst hja
        omega
      · exact h2.2 j (by omega) (by omega)
    · intro h
      have h2 := ih.mpr ⟨h.1, fun j h3 h4 => h.2 j (by omega) (by omega)⟩
      have h3 := h.2 a (by omega) (by omega)
      omega
theorem ymx_eq (f : Nat → Int) (m : Nat) : ymx f m = zmxr f 0 m := by
  have a1 := (ymx_le (f := f) (x := zmxr f 0 m) m).mpr ⟨((zmxr_le m 0).mp (Int.le_refl _)).1, fun j hj => ((zmxr_le m 0).mp (Int.le_refl _)).2 j (by omega) (by omega)⟩
  have a2 := (zmxr_le (f := f) (x := ymx f m) m 0).mpr ⟨((ymx_le m).mp (Int.le_refl _)).1, fun j _ hj => ((ymx_le m).mp (Int.le_refl _)).2 j (by omega)⟩
  omega
section ZX
variable {L : Nat} {M : zM} {P : zP} {A : zA}
theorem sp_M_latency {k c : Int} (hA : zMS M A) (hk : zI k) (hc : zI c) : zf (zSh L) 2 kX8_latency [zvr 34, zvi k, zvi c] M (fun v M1 => v = some (.inl (zs_latency A k c).1) ∧ zMS M1 (zs_latency A k c).2 ∧ zFM M M1) := by
  have hA0 := hA
  obtain ⟨hI, g2, g3, g4, g5, g6, g7, g8, g9⟩ := hA
  obtain ⟨hB, hw, h9, hC⟩ := hI
  have bad : (k < 0 ∨ 6 < k ∨ c < 1 ∨ 12 < c) → zr (zSh L) 1 tX8_latency 21 [some (zvr 34), some (zvi k), some (zvi c), none] [] M (fun v M1 => v = some (.inl (zs_latency A k c).1) ∧ zMS M1 (zs_latency A k c).2 ∧ zFM M M1) := fun h => by
    repeat refine zr_s rfl rfl rfl ?_
    refine zr_ret rfl ?_
    unfold zs_latency
    rw [if_pos h]
    exact ⟨rfl, hA0, zFM_rf⟩
  refine zf_of rfl (Nat.le_of_ble_eq_true rfl) ?_
  repeat refine zr_s rfl rfl rfl ?_
  refine zr_zlt rfl hk (fun h => bad (by omega)) (fun h => ?_)
  repeat refine zr_s rfl rfl rfl ?_
  refine zr_igt rfl hk (by decide) (fun h => bad (by omega)) (fun h1 => ?_)
  repeat refine zr_s rfl rfl rfl ?_
  refine zr_ilt rfl hc (by decide) (fun h => bad (by omega)) (fun h2 => ?_)
  repeat refine zr_s rfl rfl rfl ?_
  refine zr_ile rfl hc (by decide) (fun h3 => ?_) (fun h => bad (by omega))
  unfold zs_latency
  rw [if_neg (by omega)]
  obtain ⟨q, hq⟩ : ∃ q : Nat, k = q := Int.eq_ofNat_of_zero_le (by omega)
  subst hq
  rw [Int.toNat_natCast]
  repeat refine zr_s rfl rfl rfl ?_
  refine zr_ald (q) rfl rfl rfl (by omega) (by decide) ?_
  repeat refine zr_s rfl rfl rfl ?_
  refine zr_ast (q) rfl rfl rfl (by omega) (by decide) ?_
  repeat refine zr_s rfl rfl rfl ?_
  generalize hN : zup (zup M 40 q c) 34 9 0 = N
  have row : ∀ a, a ≠ 34 → a ≠ 40 → N a = M a := fun a h1 h2 => by rw [← hN, zup_row h1, zup_row h2]
  have r34 : ∀ b, b ≠ 9 → N 34 b = M 34 b := fun b hb => by rw [← hN, zup_off hb, zup_row (by decide)]
  have r9 : N 34 9 = 0 := by rw [← hN, zup_at]
  have e8 : ∀ x, N 40 x = if x = q then c else M 40 x := fun x => by
    rw [← hN, zup_row (by decide)]
    by_cases h : x = q
    · rw [if_pos h, h, zup_at]
    · rw [if_neg h, zup_off h]
  refine zr_ret rfl ⟨by rw [hB.2.2.1 q (by omega)], ?_, fun a ha => row a (by omega) (by omega)⟩
  have hwq : zWf (pn A.1, pu A.1, pK A.1, pT A.1, pA A.1, pB A.1, pC A.1, zfn (pq A.1) q c.toNat) := by
    refine ⟨hw.1, hw.2.1, hw.2.2.1, fun x hx => ?_, hw.2.2.2.2⟩
    show 1 ≤ zfn (pq A.1) q c.toNat x ∧ zfn (pq A.1) q c.toNat x ≤ 12
    unfold zfn
    split
    · omega
    · exact hw.2.2.2.1 x hx
  refine ⟨⟨?_, hwq, Or.inl r9, fun h => by rw [r9] at h; cases h⟩, by rw [row 48 (by decide) (by decide)]; exact g2, by rw [row 48 (by decide) (by decide)]; exact g3, by rw [r34 20 (by decide)]; exact g4, by rw [r34 21 (by decide)]; exact g5, by rw [row 51 (by decide) (by decide)]; exact g6, by rw [row 52 (by decide) (by decide)]; exact g7, by rw [row 53 (by decide) (by decide)]; exact g8, by rw [row 54 (by decide) (by decide)]; exact g9⟩
  obtain ⟨b1, b2, b3, b4⟩ := hB
  refine ⟨by rw [r34 5 (by decide)]; exact b1, by rw [r34 7 (by decide)]; exact b2, fun x hx => ?_, fun i hi => by rw [row 35 (by decide) (by decide), row 36 (by decide) (by decide), row 37 (by decide) (by decide), row 38 (by decide) (by decide), row 39 (by decide) (by decide)]; exact b4 i hi⟩
  rw [e8]
  show _ = ((zfn (pq A.1) q c.toNat x : Nat) : Int)
  unfold zfn
  by_cases h : x = q
  · rw [if_pos h, if_pos h]
    omega
  · rw [if_neg h, if_neg h]
    exact b3 x hx
theorem sp_M_units {m : Int} (hA : zMS M A) (hm : zI m) : zf (zSh L) 2 kX8_units [zvr 34, zvi m] M (fun v M1 => v = some (.inl (zs_units A m).1) ∧ zMS M1 (zs_units A m).2 ∧ zFM M M1) := by
  have hA0 := hA
  obtain ⟨hI, g2, g3, g4, g5, g6, g7, g8, g9⟩ := hA
  obtain ⟨hB, hw, h9, hC⟩ := hI
  have bad : (m < 1 ∨ 8 < m) → zr (zSh L) 1 tX8_units 11 [some (zvr 34), some (zvi m), none] [] M (fun v M1 => v = some (.inl (zs_units A m).1) ∧ zMS M1 (zs_units A m).2 ∧ zFM M M1) := fun h => by
    repeat refine zr_s rfl rfl rfl ?_
    refine zr_ret rfl ?_
    unfold zs_units
    rw [if_pos h]
    exact ⟨rfl, hA0, zFM_rf⟩
  refine zf_of rfl (Nat.le_of_ble_eq_true rfl) ?_
  repeat refine zr_s rfl rfl rfl ?_
  refine zr_ilt rfl hm (by decide) (fun h => bad (by omega)) (fun h2 => ?_)
  repeat refine zr_s rfl rfl rfl ?_
  refine zr_ile rfl hm (by decide) (fun h3 => ?_) (fun h => bad (by omega))
  unfold zs_units
  rw [if_neg (by omega)]
  obtain ⟨q, hq⟩ : ∃ q : Nat, m = q := Int.eq_ofNat_of_zero_le (by omega)
  subst hq
  repeat refine zr_s rfl rfl rfl ?_
  generalize hN : zup (zup M 34 7 (q : Int)) 34 9 0 = N
  have row : ∀ a, a ≠ 34 → N a = M a := fun a h1 => by rw [← hN, zup_row h1, zup_row h1]
  have r34 : ∀ b, b ≠ 7 → b ≠ 9 → N 34 b = M 34 b := fun b hb hb2 => by rw [← hN, zup_off hb2, zup_off hb]
  have r7 : N 34 7 = q := by rw [← hN, zup_off (by decide), zup_at]
  have r9 : N 34 9 = 0 := by rw [← hN, zup_at]
  refine zr_ret rfl ⟨by rw [hB.2.1], ?_, fun a ha => row a (by omega)⟩
  rw [Int.toNat_natCast]
  have hwq : zWf (pn A.1, q, A.1.2.2) := ⟨hw.1, show 1 ≤ q by omega, show q ≤ 8 by omega, hw.2.2.2.1, hw.2.2.2.2⟩
  refine ⟨⟨?_, hwq, Or.inl r9, fun h => by rw [r9] at h; cases h⟩, by rw [row 48 (by decide)]; exact g2, by rw [row 48 (by decide)]; exact g3, by rw [r34 20 (by decide) (by decide)]; exact g4, by rw [r34 21 (by decide) (by decide)]; exact g5, by rw [row 51 (by decide)]; exact g6, by rw [row 52 (by decide)]; exact g7, by rw [row 53 (by decide)]; exact g8, by rw [row 54 (by decide)]; exact g9⟩
  obtain ⟨b1, b2, b3, b4⟩ := hB
  exact ⟨by rw [r34 5 (by decide) (by decide)]; exact b1, r7, by rw [row 40 (by decide)]; exact b3, fun i hi => by rw [row 35 (by decide), row 36 (by decide), row 37 (by decide), row 38 (by decide), row 39 (by decide)]; exact b4 i hi⟩
theorem sp_M_delay {i j : Int} (hA : zMS M A) (hi : zI i) (hj : zI j) : zf (zSh L) 7 kX8_delay [zvr 34, zvi i, zvi j] M (fun v M1 => v = some (.inl (zs_delay A i j)) ∧ zMS M1 A ∧ zFM M M1) := by
  have hB := hA.1.1
  have hw := hA.1.2.1
  have h60 := hw.1
  have bad : ¬ (zin' A.1 i ∧ zin' A.1 j) → zr (zSh L) 6 tX8_delay 16 [some (zvr 34), some (zvi i), some (zvi j)] [] M (fun v M1 => v = some (.inl (zs_delay A i j)) ∧ zMS M1 A ∧ zFM M M1) := fun h => by
    repeat refine zr_s rfl rfl rfl ?_
    refine zr_ret rfl ?_
    unfold zs_delay
    rw [if_neg h]
    exact ⟨rfl, hA, zFM_rf⟩
  refine zf_of rfl (Nat.le_of_ble_eq_true rfl) ?_
  repeat refine zr_s rfl rfl rfl ?_
  refine zr_cr rfl rfl rfl (zf_mono (Nat.le_of_ble_eq_true rfl) (sp_M_isThere hB hw hi)) ?_
  by_cases h1 : 0 ≤ i ∧ i < pn A.1
  rotate_left
  · rw [zb_f (by simpa using h1)]
    exact zr_zeq rfl (by decide) (fun _ => bad (fun z => h1 z.1)) (fun h => absurd rfl h)
  rw [zb_t (by simpa using h1)]
  refine zr_zeq rfl (by decide) (fun h => by cases h) (fun _ => ?_)
  repeat refine zr_s rfl rfl rfl ?_
  refine zr_cr rfl rfl rfl (zf_mono (Nat.le_of_ble_eq_true rfl) (sp_M_isThere hB hw hj)) ?_
  by_cases h2 : 0 ≤ j ∧ j < pn A.1
  rotate_left
  · rw [zb_f (by simpa using h2)]
    exact zr_zne rfl (by decide) (fun h => absurd rfl h) (fun _ => bad (fun z => h2 z.2))
  rw [zb_t (by simpa using h2)]
  refine zr_zne rfl (by decide) (fun _ => ?_) (fun h => by cases h)
  unfold zs_delay
  rw [if_pos (show zin' A.1 i ∧ zin' A.1 j from ⟨h1, h2⟩)]
  obtain ⟨a, rfl⟩ := Int.eq_ofNat_of_zero_le h1.1
  obtain ⟨b, rfl⟩ := Int.eq_ofNat_of_zero_le h2.1
  rw [Int.toNat_natCast, Int.toNat_natCast]
  repeat refine zr_s rfl rfl rfl ?_
  refine zr_c rfl rfl rfl (zf_mono (Nat.le_of_ble_eq_true rfl) (sp_workS hA)) (fun v M1 hv => ?_)
  obtain ⟨rfl, h9, hA1, hF⟩ := hv
  have hD := (hA1.1.2.2.2 h9).1
  have hzI := zdm_I hw (i := a) (j := b) (by omega) (by omega)
  repeat refine zr_s rfl rfl rfl ?_
  refine zr_cr rfl rfl rfl (zf_mono (Nat.le_of_ble_eq_true rfl) (sp_M_delayAt hw hD (by omega) (by omega))) ?_
  refine zr_zge rfl (by omega) (fun h3 => ?_) (fun h3 => ?_)
  · repeat refine zr_s rfl rfl rfl ?_
    refine zr_cr rfl rfl rfl (zf_mono (Nat.le_of_ble_eq_true rfl) (sp_M_delayAt hw hD (by omega) (by omega))) ?_
    have h4 := (zdm_ge hw (by omega)).mp h3
    rw [if_pos h4.1, ← zdm_dc hw (by omega) h3]
    exact zr_ret rfl (⟨rfl, hA1, hF⟩)
  · repeat refine zr_s rfl rfl rfl ?_
    refine zr_ret rfl ⟨?_, hA1, hF⟩
    by_cases hab : a < b
    · rw [if_pos hab]
      have : zdc A.1 a b = -3 := Decidable.byContradiction (fun z => by have := (zdm_ge hw (i := a) (j := b) (by omega)).mpr ⟨hab, z⟩; omega)
      rw [this]
    · rw [if_neg hab]
theorem sp_M_greatestWay {W : Nat → Int} (hB : zBm M P) (hw : zWf P) (hW : ∀ i, i < pn P → M 42 i = W i) (hI : ∀ i, i < pn P → 0 ≤ W i ∧ W i ≤ 1000) : zf (zSh L) 1 kX8_greatestWay [zvr 34] M (fun v M1 => v = some (.inl (zmxr W 0 (pn P))) ∧ M1 = M) := by
  have h60 := hw.1
  have hmI : ∀ m, m ≤ pn P → 0 ≤ ymx W m ∧ ymx W m ≤ 1000 := fun m hm => ⟨((ymx_le m).mp (Int.le_refl _)).1, (ymx_le m).mpr ⟨by decide, fun j hj => (hI j (by omega)).2⟩⟩
  have loop : ∀ (t i : Nat), i + t = pn P → zr (zSh L) 0 tX8_greatestWay 4 [some (zvr 34), some (zvi (ymx W i)), some (zvi i)] [] M (fun v M1 => v = some (.inl (zmxr W 0 (pn P))) ∧ M1 = M) := by
    intro t
    induction t with
    | zero =>
      intro i hi
      repeat refine zr_s rfl rfl rfl ?_
      rw [hB.1]
      refine zr_ige rfl (by omega) (by omega) (fun h => ?_) (fun h => by omega)
      repeat refine zr_s rfl rfl rfl ?_
      refine zr_ret rfl ⟨by rw [show i = pn P by omega, ymx_eq], rfl⟩
    | succ t ih =>
      intro i hi
      have h1 := hmI i (by omega)
      have h2 := hI i (by omega)
      have nxt : ∀ x : Int, x = ymx W (i + 1) → zr (zSh L) 0 tX8_greatestWay 32 [some (zvr 34), some (zvi (ymx W i)), some (zvi i)] [zvi x] M (fun v M1 => v = some (.inl (zmxr W 0 (pn P))) ∧ M1 = M) := fun x hx => by
        repeat refine zr_s rfl rfl rfl ?_
        refine zr_b rfl rfl ?_
        rw [hx]
        exact ih (i + 1) (by omega)
      have xS : ymx W (i + 1) = max (ymx W i) (W i) := rfl
      repeat refine zr_s rfl rfl rfl ?_
      rw [hB.1]
      refine zr_ige rfl (by omega) (by omega) (fun h => by omega) (fun h => ?_)
      repeat refine zr_s rfl rfl rfl ?_
      refine zr_ald (i) rfl rfl rfl (by omega) (by decide) ?_
      repeat refine zr_s rfl rfl rfl ?_
      rw [hW i (by omega)]
      refine zr_ile rfl (by omega) (by omega) (fun h3 => ?_) (fun h3 => ?_)
      · repeat refine zr_t 32 rfl rfl rfl rfl ?_
        exact nxt _ (by rw [xS]; omega)
      · repeat refine zr_s rfl rfl rfl ?_
        refine zr_ald (i) rfl rfl rfl (by omega) (by decide) ?_
        repeat refine zr_t 32 rfl rfl rfl rfl ?_
        exact nxt _ (by rw [xS, hW i (by omega)]; omega)
  refine zf_of rfl (Nat.le_of_ble_eq_true rfl) ?_
  repeat refine zr_t 4 rfl rfl rfl rfl ?_
  exact loop (pn P) 0 (by omega)
theorem zway_I {P : zP} (hw : zWf P) (h : ∃ f, zIsW P f 0) {i : Nat} (hi : i < pn P) : 0 ≤ zway P i ∧ zway P i ≤ 1000 := by
  obtain ⟨f, hf⟩ := h
  have h60 := hw.1
  have := zIsW_I hw hf (pn P - i) i (by omega) (by omega) hi
  rw [← zway_eq hf hi]
  omega
theorem sp_M_listed {i : Int} (hA : zMS M A) (hi : zI i) : zf (zSh L) 7 kX8_listed [zvr 34, zvi i] M (fun v M1 => v = some (.inl (zs_listed A i)) ∧ zMS M1 A ∧ zFM M M1) := by
  have hB := hA.1.1
  have hw := hA.1.2.1
  have h60 := hw.1
  refine zf_of rfl (Nat.le_of_ble_eq_true rfl) ?_
  repeat refine zr_s rfl rfl rfl ?_
  refine zr_cr rfl rfl rfl (zf_mono (Nat.le_of_ble_eq_true rfl) (sp_M_isThere hB hw hi)) ?_
  by_cases h1 : 0 ≤ i ∧ i < pn A.1
  rotate_left
  · rw [zb_f (by simpa using h1)]
    refine zr_zne rfl (by decide) (fun h => absurd rfl h) (fun _ => ?_)
    repeat refine zr_s rfl rfl rfl ?_
    refine zr_ret rfl ?_
    unfold zs_listed
    rw [if_neg (show ¬ zin' A.1 i from h1)]
    exact ⟨rfl, hA, zFM_rf⟩
  rw [zb_t (by simpa using h1)]
  refine zr_zne rfl (by decide) (fun _ => ?_) (fun h => by cases h)
  unfold zs_listed
  rw [if_pos (show zin' A.1 i from h1)]
  obtain ⟨a, rfl⟩ := Int.eq_ofNat_of_zero_le h1.1
  rw [Int.toNat_natCast]
  repeat refine zr_s rfl rfl rfl ?_
  refine zr_c rfl rfl rfl (zf_mono (Nat.le_of_ble_eq_true rfl) (sp_workS hA)) (fun v M1 hv => ?_)
  obtain ⟨rfl, h9, hA1, hF⟩ := hv
  repeat refine zr_s rfl rfl rfl ?_
  refine zr_ald (a) rfl rfl rfl (by omega) (by decide) ?_
  obtain ⟨k1, k2, k3, k4, k5, k6, k7, k8, k9⟩ := hA1.1.2.2.2 h9
  rw [k5 a (by omega)]
  exact zr_ret rfl (⟨rfl, hA1, hF⟩)
theorem sp_M_about {i w : Int} (hA : zMS M A) (hi : zI i) (hwI : zI w) : zf (zSh L) 7 kX8_about [zvr 34, zvi i, zvi w] M (fun v M1 => v = some (.inl (zs_about A i w)) ∧ zMS M1 A ∧ zFM M M1) := by
  have hB := hA.1.1
  have hw := hA.1.2.1
  have h60 := hw.1
  have bad : (¬ zin' A.1 i ∨ w < 0 ∨ 6 < w) → zr (zSh L) 6 tX8_about 18 [some (zvr 34), some (zvi i), some (zvi w)] [] M (fun v M1 => v = some (.inl (zs_about A i w)) ∧ zMS M1 A ∧ zFM M M1) := fun h => by
    repeat refine zr_s rfl rfl rfl ?_
    refine zr_ret rfl ⟨?_, hA, zFM_rf⟩
    unfold zs_about
    by_cases hz : zin' A.1 i
    · have h' : w < 0 ∨ 6 < w := h.resolve_left (fun z => z hz)
      rw [if_pos hz, if_neg (by omega), if_neg (by omega), if_neg (by omega), if_neg (by omega), if_neg (by omega), if_neg (by omega), if_neg (by omega)]
    · rw [if_neg hz]
  refine zf_of rfl (Nat.le_of_ble_eq_true rfl) ?_
  repeat refine zr_s rfl rfl rfl ?_
  refine zr_cr rfl rfl rfl (zf_mono (Nat.le_of_ble_eq_true rfl) (sp_M_isThere hB hw hi)) ?_
  by_cases h1 : 0 ≤ i ∧ i < pn A.1
  rotate_left
  · rw [zb_f (by simpa using h1)]
    exact zr_zeq rfl (by decide) (fun _ => bad (Or.inl h1)) (fun h => absurd rfl h)
  rw [zb_t (by simpa using h1)]
  refine zr_zeq rfl (by decide) (fun h => by cases h) (fun _ => ?_)
  repeat refine zr_s rfl rfl rfl ?_
  refine zr_zlt rfl hwI (fun h => bad (Or.inr (Or.inl h))) (fun h2 => ?_)
  repeat refine zr_s rfl rfl rfl ?_
  refine zr_ile rfl hwI (by decide) (fun h3 => ?_) (fun h => bad (Or.inr (Or.inr (by omega))))
  unfold zs_about
  rw [if_pos (show zin' A.1 i from h1)]
  obtain ⟨a, rfl⟩ := Int.eq_ofNat_of_zero_le h1.1
  rw [Int.toNat_natCast]
  have ha : a < pn A.1 := by omega
  repeat refine zr_s rfl rfl rfl ?_
  refine zr_c rfl rfl rfl (zf_mono (Nat.le_of_ble_eq_true rfl) (sp_workS hA)) (fun v M1 hv => ?_)
  obtain ⟨rfl, h9, hA1, hF⟩ := hv
  obtain ⟨k1, k2, k3, k4, k5, k6, k7, k8, k9⟩ := hA1.1.2.2.2 h9
  repeat refine zr_s rfl rfl rfl ?_
  have hc : w = 0 ∨ w = 1 ∨ w = 2 ∨ w = 3 ∨ w = 4 ∨ w = 5 ∨ w = 6 := by omega
  rcases hc with rfl | rfl | rfl | rfl | rfl | rfl | rfl
  · refine zr_tabIn 39 rfl hwI (by decide) (by decide) rfl ?_
    repeat refine zr_s rfl rfl rfl ?_
    refine zr_ald (a) rfl rfl rfl (by omega) (by decide) ?_
    rw [k2 a ha]
    exact zr_ret rfl (⟨rfl, hA1, hF⟩)
  · refine zr_tabIn 46 rfl hwI (by decide) (by decide) rfl ?_
    repeat refine zr_s rfl rfl rfl ?_
    refine zr_ald (a) rfl rfl rfl (by omega) (by decide) ?_
    rw [k3 a ha]
    exact zr_ret rfl (⟨rfl, hA1, hF⟩)
  · refine zr_tabIn 53 rfl hwI (by decide) (by decide) rfl ?_
    repeat refine zr_s rfl rfl rfl ?_
    refine zr_cr rfl rfl rfl (zf_mono (Nat.le_of_ble_eq_true rfl) (sp_M_greatestWay hA1.1.1 hw k2 (fun i hi => zway_I hw k9 hi))) ?_
    repeat refine zr_s rfl rfl rfl ?_
    refine zr_ald (a) rfl rfl rfl (by omega) (by decide) ?_
    repeat refine zr_s rfl rfl rfl ?_
    refine zr_ald (a) rfl rfl rfl (by omega) (by decide) ?_
    repeat refine zr_s rfl rfl rfl ?_
    rw [k2 a ha, k3 a ha]
    exact zr_ret rfl (⟨rfl, hA1, hF⟩)
  · refine zr_tabIn 72 rfl hwI (by decide) (by decide) rfl ?_
    repeat refine zr_s rfl rfl rfl ?_
    refine zr_ald (a) rfl rfl rfl (by omega) (by decide) ?_
    rw [k4 a ha]
    exact zr_ret rfl (⟨rfl, hA1, hF⟩)
  · refine zr_tabIn 79 rfl hwI (by decide) (by decide) rfl ?_
    repeat refine zr_s rfl rfl rfl ?_
    refine zr_ald (a) rfl rfl rfl (by omega) (by decide) ?_
    rw [k6 a ha]
    exact zr_ret rfl (⟨rfl, hA1, hF⟩)
  · refine zr_tabIn 86 rfl hwI (by decide) (by decide) rfl ?_
    repeat refine zr_s rfl rfl rfl ?_
    refine zr_ald (a) rfl rfl rfl (by omega) (by decide) ?_
    rw [k7 a ha]
    exact zr_ret rfl (⟨rfl, hA1, hF⟩)
  · refine zr_tabOut rfl hwI (by decide) ?_
    repeat refine zr_s rfl rfl rfl ?_
    refine zr_ald (a) rfl rfl rfl (by omega) (by decide) ?_
    rw [hA1.2.1 a ha]
    exact zr_ret rfl (⟨rfl, hA1, hF⟩)
end ZX
