/-! THE REFERENCE'S SHORTEST PLAN -/
section ZX
variable {L : Nat} {M : zM} {P : zP} {ord : Nat → Nat}
theorem sp_M_exchange {a b : Nat} (ha : a < 60) (hb : b < 60) : zf (zSh L) 1 kX8_exchange [zvr 34, zvi a, zvi b] M (fun v M1 => v = none ∧ M1 = zup (zup M 49 a (M 49 b)) 49 b (M 49 a)) := by
  refine zf_of rfl (Nat.le_of_ble_eq_true rfl) ?_
  repeat refine zr_s rfl rfl rfl ?_
  refine zr_ald (a) rfl rfl rfl (by omega) (by decide) ?_
  repeat refine zr_s rfl rfl rfl ?_
  refine zr_ald (b) rfl rfl rfl (by omega) (by decide) ?_
  repeat refine zr_s rfl rfl rfl ?_
  refine zr_ast (a) rfl rfl rfl (by omega) (by decide) ?_
  repeat refine zr_s rfl rfl rfl ?_
  refine zr_ast (b) rfl rfl rfl (by omega) (by decide) ?_
  repeat refine zr_s rfl rfl rfl ?_
  exact zr_retv rfl (⟨rfl, rfl⟩)
theorem sp_M_isKept (hB : zBm M P) (hw : zWf P) (hD : zDm M P) (hR : ∀ p, p < pn P → M 49 p = ord p ∧ ord p < pn P) : zf (zSh L) 2 kX8_isKept [zvr 34] M (fun v M1 => M1 = M ∧ ((v = some (.inl 1) ∧ yKp P ord) ∨ (v = some (.inl 0) ∧ ¬ yKp P ord))) := by
  have h60 := hw.1
  have outer : ∀ (t a : Nat) (o2 : Option zV), a + t = pn P → (∀ x y, x < a → x < y → y < pn P → ¬ (ord y < ord x ∧ 0 ≤ zdm P (ord y) (ord x))) → zr (zSh L) 1 tX8_isKept 2 [some (zvr 34), some (zvi a), o2] [] M (fun v M1 => M1 = M ∧ ((v = some (.inl 1) ∧ yKp P ord) ∨ (v = some (.inl 0) ∧ ¬ yKp P ord))) := by
    intro t
    induction t with
    | zero =>
      intro a o2 ha hE
      repeat refine zr_s rfl rfl rfl ?_
      rw [hB.1]
      refine zr_ige rfl (by omega) (by omega) (fun h => ?_) (fun h => by omega)
      repeat refine zr_s rfl rfl rfl ?_
      exact zr_retz rfl (by omega) (⟨rfl, Or.inl ⟨rfl, fun x y h1 h2 => hE x y (by omega) h1 h2⟩⟩)
    | succ t ih =>
      intro a o2 ha hE
      repeat refine zr_s rfl rfl rfl ?_
      rw [hB.1]
      refine zr_ige rfl (by omega) (by omega) (fun h => by omega) (fun h => ?_)
      obtain ⟨ra, rn⟩ := hR a (by omega)
      have inner : ∀ (u b : Nat), b + u = pn P → a < b → (∀ y, a < y → y < b → ¬ (ord y < ord a ∧ 0 ≤ zdm P (ord y) (ord a))) → zr (zSh L) 1 tX8_isKept 14 [some (zvr 34), some (zvi a), some (zvi b)] [] M (fun v M1 => M1 = M ∧ ((v = some (.inl 1) ∧ yKp P ord) ∨ (v = some (.inl 0) ∧ ¬ yKp P ord))) := by
        intro u
        induction u with
        | zero =>
          intro b hb hab hF
          repeat refine zr_s rfl rfl rfl ?_
          rw [hB.1]
          refine zr_ige rfl (by omega) (by omega) (fun h => ?_) (fun h => by omega)
          repeat refine zr_s rfl rfl rfl ?_
          refine zr_b rfl rfl ?_
          refine ih (a + 1) _ (by omega) (fun x y h1 h2 h3 => ?_)
          by_cases hxa : x = a
          · subst hxa
            exact hF y h2 (by omega)
          · exact hE x y (by omega) h2 h3
        | succ u ihu =>
          intro b hb hab hF
          obtain ⟨rb, rbn⟩ := hR b (by omega)
          have hzI := zdm_I hw rbn rn
          have nxt : ¬ (ord b < ord a ∧ 0 ≤ zdm P (ord b) (ord a)) → zr (zSh L) 1 tX8_isKept 58 [some (zvr 34), some (zvi a), some (zvi b)] [] M (fun v M1 => M1 = M ∧ ((v = some (.inl 1) ∧ yKp P ord) ∨ (v = some (.inl 0) ∧ ¬ yKp P ord))) := fun hn => by
            repeat refine zr_s rfl rfl rfl ?_
            refine zr_b rfl rfl ?_
            refine ihu (b + 1) (by omega) (by omega) (fun y h1 h2 => ?_)
            by_cases hyb : y = b
            · rw [hyb]
              exact hn
            · exact hF y h1 (by omega)
          repeat refine zr_s rfl rfl rfl ?_
          rw [hB.1]
          refine zr_ige rfl (by omega) (by omega) (fun h => by omega) (fun h => ?_)
          repeat refine zr_s rfl rfl rfl ?_
          refine zr_ald (b) rfl rfl rfl (by omega) (by decide) ?_
          repeat refine zr_s rfl rfl rfl ?_
          refine zr_ald (a) rfl rfl rfl (by omega) (by decide) ?_
          rw [ra, rb]
          refine zr_ige rfl (by omega) (by omega) (fun h2 => nxt (by omega)) (fun h2 => ?_)
          repeat refine zr_s rfl rfl rfl ?_
          refine zr_ald (b) rfl rfl rfl (by omega) (by decide) ?_
          repeat refine zr_s rfl rfl rfl ?_
          refine zr_ald (a) rfl rfl rfl (by omega) (by decide) ?_
          rw [ra, rb]
          refine zr_cr rfl rfl rfl (zf_mono (Nat.le_of_ble_eq_true rfl) (sp_M_delayAt hw hD rbn rn)) ?_
          refine zr_zlt rfl (by omega) (fun h3 => nxt (by omega)) (fun h3 => ?_)
          repeat refine zr_s rfl rfl rfl ?_
          exact zr_retz rfl (by omega) (⟨rfl, Or.inr ⟨rfl, fun z => z a b hab (by omega) ⟨by omega, h3⟩⟩⟩)
      repeat refine zr_t 14 rfl rfl rfl rfl ?_
      exact inner (pn P - (a + 1)) (a + 1) (by omega) (by omega) (fun y h1 h2 => by omega)
  refine zf_of rfl (Nat.le_of_ble_eq_true rfl) ?_
  repeat refine zr_t 2 rfl rfl rfl rfl ?_
  exact outer (pn P) 0 _ (by omega) (fun x y h1 => by omega)
theorem ysc_P (p : Nat → Nat) : ∀ m, ysc p m ≤ m ∧ (0 < ysc p m → p (ysc p m - 1) ≤ p (ysc p m))
  | 0 => ⟨Nat.le_refl _, fun h => by cases h⟩
  | m + 1 => by
    have ih := ysc_P p m
    show (bif Nat.ble (p m) (p (m + 1)) then m + 1 else ysc p m) ≤ m + 1 ∧ (0 < (bif Nat.ble (p m) (p (m + 1)) then m + 1 else ysc p m) → p ((bif Nat.ble (p m) (p (m + 1)) then m + 1 else ysc p m) - 1) ≤ p (bif Nat.ble (p m) (p (m + 1)) then m + 1 else ysc p m))
    cases hb : Nat.ble (p m) (p (m + 1)) with
    | true => exact ⟨Nat.le_refl _, fun _ => Nat.le_of_ble_eq_true hb⟩
    | false => exact ⟨by show ysc p m ≤ m + 1; omega, ih.2⟩
theorem sp_M_nextRow (hB : zBm M P) (hw : zWf P) (hR : ∀ p, p < pn P → M 49 p = ord p ∧ ord p < pn P) : zf (zSh L) 2 kX8_nextRow [zvr 34] M (fun v M1 => (∀ a, a ≠ 49 → M1 a = M a) ∧ ((v = some (.inl 0) ∧ ysc ord (pn P - 1) = 0) ∨ (v = some (.inl 1) ∧ ∃ k, ysc ord (pn P - 1) = k + 1 ∧ ∀ i, i < pn P → M1 49 i = ynq (pn P) ord k (ysl ord (ord k) (pn P - 1)) i))) := by
  have h60 := hw.1
  -- none
  have stop : ∀ (x : Int) (o2 o3 o4 : Option zV), x < 0 → -100 < x → ysc ord (pn P - 1) = 0 → zr (zSh L) 1 tX8_nextRow 34 [some (zvr 34), some (zvi x), o2, o3, o4] [] M (fun v M1 => (∀ a, a ≠ 49 → M1 a = M a) ∧ ((v = some (.inl 0) ∧ ysc ord (pn P - 1) = 0) ∨ (v = some (.inl 1) ∧ ∃ k, ysc ord (pn P - 1) = k + 1 ∧ ∀ i, i < pn P → M1 49 i = ynq (pn P) ord k (ysl ord (ord k) (pn P - 1)) i))) := by
    intro x o2 o3 o4 hx hx2 h0
    repeat refine zr_s rfl rfl rfl ?_
    refine zr_zge rfl (by omega) (fun h => by omega) (fun _ => ?_)
    repeat refine zr_s rfl rfl rfl ?_
    exact zr_retz rfl (by omega) (⟨fun _ _ => rfl, Or.inl ⟨rfl, h0⟩⟩)
  -- k is found
  have found : ∀ (k : Nat) (o2 o3 o4 : Option zV), ysc ord (pn P - 1) = k + 1 → zr (zSh L) 1 tX8_nextRow 34 [some (zvr 34), some (zvi k), o2, o3, o4] [] M (fun v M1 => (∀ a, a ≠ 49 → M1 a = M a) ∧ ((v = some (.inl 0) ∧ ysc ord (pn P - 1) = 0) ∨ (v = some (.inl 1) ∧ ∃ k, ysc ord (pn P - 1) = k + 1 ∧ ∀ i, i < pn P → M1 49 i = ynq (pn P) ord k (ysl ord (ord k) (pn P - 1)) i))) := by
    intro k o2 o3 o4 hk
    have hsc := ysc_P ord (pn P - 1)
    rw [hk] at hsc
    have hk1 : k + 1 ≤ pn P - 1 := hsc.1
    have hk2 : ord k ≤ ord (k + 1) := hsc.2 (by omega)
    obtain ⟨rk, rkn⟩ := hR k (by omega)
    -- l is found
    have swap : ∀ (l : Nat), ysl ord (ord k) (pn P - 1) = l → k < l → l < pn P → zr (zSh L) 1 tX8_nextRow 68 [some (zvr 34), some (zvi k), some (zvi l), o3, o4] [] M (fun v M1 => (∀ a, a ≠ 49 → M1 a = M a) ∧ ((v = some (.inl 0) ∧ ysc ord (pn P - 1) = 0) ∨ (v = some (.inl 1) ∧ ∃ k, ysc ord (pn P - 1) = k + 1 ∧ ∀ i, i < pn P → M1 49 i = ynq (pn P) ord k (ysl ord (ord k) (pn P - 1)) i))) := by
      intro l hl hkl hln
      obtain ⟨rl, rln⟩ := hR l hln
      repeat refine zr_s rfl rfl rfl ?_
      refine zr_c rfl rfl rfl (zf_mono (Nat.le_of_ble_eq_true rfl) (sp_M_exchange (a := k) (b := l) (by omega) (by omega))) (fun v M1 hv => ?_)
      obtain ⟨rfl, e1⟩ := hv
      have hoff : ∀ a, a ≠ 49 → M1 a = M a := fun a ha => by rw [e1, zup_row ha, zup_row ha]
      have hg : ∀ i, i < pn P → M1 49 i = if i = k then (ord l : Int) else if i = l then (ord k : Int) else (ord i : Int) := by
        intro i hi
        rw [e1]
        by_cases hil : i = l
        · rw [hil, zup_at, if_neg (by omega), if_pos rfl]
          exact rk
        · rw [zup_off hil]
          by_cases hik : i = k
          · rw [hik, zup_at, if_pos rfl]
            exact rl
          · rw [zup_off hik, if_neg hik, if_neg hil]
            exact (hR i hi).1
      have hn1 : M1 34 5 = pn P := by rw [hoff 34 (by decide)]; exact hB.1
      clear e1
      have rev : ∀ (u t : Nat) (N : zM), k + 1 + t ≤ pn P - 1 - t + 1 → pn P < u + t → (∀ a, a ≠ 49 → N a = M a) → (∀ i, i < pn P → N 49 i = if (k < i ∧ i < k + 1 + t) ∨ pn P - 1 - t < i then M1 49 (k + pn P - i) else M1 49 i) → zr (zSh L) 1 tX8_nextRow 86 [some (zvr 34), some (zvi k), some (zvi l), some (zvi ((k + 1 + t : Nat) : Int)), some (zvi ((pn P : Int) - 1 - t))] [] N (fun v M1 => (∀ a, a ≠ 49 → M1 a = M a) ∧ ((v = some (.inl 0) ∧ ysc ord (pn P - 1) = 0) ∨ (v = some (.inl 1) ∧ ∃ k, ysc ord (pn P - 1) = k + 1 ∧ ∀ i, i < pn P → M1 49 i = ynq (pn P) ord k (ysl ord (ord k) (pn P - 1)) i))) := by
        intro u
        induction u with
        | zero =>
          intro t N h1 h2 hN hE
          omega
        | succ u ih =>
          intro t N h1 h2 hN hE
          repeat refine zr_s rfl rfl rfl ?_
          refine zr_ige rfl (by omega) (by omega) (fun h => ?_) (fun h => ?_)
          · repeat refine zr_s rfl rfl rfl ?_
            refine zr_retz rfl (by omega) ⟨hN, Or.inr ⟨rfl, k, hk, fun i hi => ?_⟩⟩
            rw [hE i hi, hl]
            unfold ynq
            by_cases hik : i < k
            · rw [if_neg (by omega), hg i hi, if_neg (by omega), if_neg (by omega), show Nat.blt i k = true from Nat.ble_eq_true_of_le hik]
              rfl
            · have hb1 : Nat.blt i k = false := by
                cases hb : Nat.blt i k with
                | false => rfl
                | true => exact absurd (Nat.le_of_ble_eq_true hb) (by omega)
              rw [hb1, cond_false]
              by_cases hie : i = k
              · subst hie
                rw [if_neg (by omega), hg i hi, if_pos rfl, show Nat.beq i i = true from Nat.beq_refl i, cond_true]
              · have hb2 : Nat.beq i k = false := by
                  cases hb : Nat.beq i k with
                  | false => rfl
                  | true => exact absurd (Nat.eq_of_beq_eq_true hb) hie
                rw [hb2, cond_false]
                have hmid : (if (k < i ∧ i < k + 1 + t) ∨ pn P - 1 - t < i then M1 49 (k + pn P - i) else M1 49 i) = M1 49 (k + pn P - i) := by
                  split
                  · rfl
                  · rw [show k + pn P - i = i by omega]
                rw [hmid, hg _ (by omega), if_neg (by omega)]
                by_cases hil : k + pn P - i = l
                · rw [if_pos hil, show Nat.beq (k + pn P - i) l = true by rw [hil]; exact Nat.beq_refl l, cond_true]
                · have hb3 : Nat.beq (k + pn P - i) l = false := by
                    cases hb : Nat.beq (k + pn P - i) l with
                    | false => rfl
                    | true => exact absurd (Nat.eq_of_beq_eq_true hb) hil
                  rw [if_neg hil, hb3, cond_false]
          · repeat refine zr_s rfl rfl rfl ?_
            have e2 : (pn P : Int) - 1 - t = ((pn P - 1 - t : Nat) : Int) := by omega
            rw [e2]
            refine zr_c rfl rfl rfl (zf_mono (Nat.le_of_ble_eq_true rfl) (sp_M_exchange (a := k + 1 + t) (b := pn P - 1 - t) (by omega) (by omega))) (fun v M2 hv => ?_)
            obtain ⟨rfl, e3⟩ := hv
            repeat refine zr_s rfl rfl rfl ?_
            refine zr_b rfl rfl ?_
            have e4 : ((pn P - 1 - t : Nat) : Int) + -1 = (pn P : Int) - 1 - ((t + 1 : Nat) : Int) := by omega
            rw [e4]
            refine ih (t + 1) M2 (by omega) (by omega) (fun a ha => by rw [e3, zup_row ha, zup_row ha]; exact hN a ha) (fun i hi => ?_)
            have ea := hE (k + 1 + t) (by omega)
            rw [if_neg (by omega)] at ea
            have eb := hE (pn P - 1 - t) (by omega)
            rw [if_neg (by omega)] at eb
            rw [e3]
            by_cases hib : i = pn P - 1 - t
            · rw [if_pos (by omega), hib, zup_at, ea]
              rw [show k + pn P - (pn P - 1 - t) = k + 1 + t by omega]
            · rw [zup_off hib]
              by_cases hia : i = k + 1 + t
              · rw [if_pos (by omega), hia, zup_at, eb]
                rw [show k + pn P - (k + 1 + t) = pn P - 1 - t by omega]
              · rw [zup_off hia, hE i hi]
                by_cases hc : (k < i ∧ i < k + 1 + t) ∨ pn P - 1 - t < i
                · rw [if_pos hc, if_pos (by omega)]
                · rw [if_neg hc, if_neg (by omega)]
      repeat refine zr_t 86 rfl rfl rfl rfl ?_
      rw [hn1]
      have h0 := rev 61 0 M1 (by omega) (by omega) hoff (fun i hi => by rw [if_neg (by omega)])
      rw [show (pn P : Int) - 1 - ((0 : Nat) : Int) = (pn P : Int) - 1 by omega] at h0
      exact h0
    have floop : ∀ (t m : Nat), m = k + 1 + t → m ≤ pn P - 1 → ysl ord (ord k) (pn P - 1) = ysl ord (ord k) m → zr (zSh L) 1 tX8_nextRow 47 [some (zvr 34), some (zvi k), some (zvi m), o3, o4] [] M (fun v M1 => (∀ a, a ≠ 49 → M1 a = M a) ∧ ((v = some (.inl 0) ∧ ysc ord (pn P - 1) = 0) ∨ (v = some (.inl 1) ∧ ∃ k, ysc ord (pn P - 1) = k + 1 ∧ ∀ i, i < pn P → M1 49 i = ynq (pn P) ord k (ysl ord (ord k) (pn P - 1)) i))) := by
      intro t
      induction t with
      | zero =>
        intro m hm hm2 he
        obtain ⟨rm, rmn⟩ := hR m (by omega)
        subst hm
        have hS : ysl ord (ord k) (k + 1 + 0) = k + 1 := by
          show (bif Nat.ble (ord k) (ord (k + 1)) then k + 1 else ysl ord (ord k) k) = k + 1
          rw [Nat.ble_eq_true_of_le hk2]
          rfl
        repeat refine zr_s rfl rfl rfl ?_
        refine zr_ald (k + 1 + 0) rfl rfl rfl (by omega) (by decide) ?_
        repeat refine zr_s rfl rfl rfl ?_
        refine zr_ald (k) rfl rfl rfl (by omega) (by decide) ?_
        rw [rm, rk]
        refine zr_ige rfl (by omega) (by omega) (fun h => ?_) (fun h => by rw [Nat.add_zero] at h; omega)
        exact swap (k + 1 + 0) (by rw [he, hS]) (by omega) (by omega)
      | succ t ih =>
        intro m hm hm2 he
        obtain ⟨rm, rmn⟩ := hR m (by omega)
        obtain ⟨m', rfl⟩ : ∃ m', m = m' + 1 := ⟨k + 1 + t, by omega⟩
        have hS : ysl ord (ord k) (m' + 1) = bif Nat.ble (ord k) (ord (m' + 1)) then m' + 1 else ysl ord (ord k) m' := rfl
        repeat refine zr_s rfl rfl rfl ?_
        refine zr_ald (m' + 1) rfl rfl rfl (by omega) (by decide) ?_
        repeat refine zr_s rfl rfl rfl ?_
        refine zr_ald (k) rfl rfl rfl (by omega) (by decide) ?_
        rw [rm, rk]
        refine zr_ige rfl (by omega) (by omega) (fun h => ?_) (fun h => ?_)
        · refine swap (m' + 1) ?_ (by omega) (by omega)
          rw [he, hS, Nat.ble_eq_true_of_le (by omega)]
          rfl
        · repeat refine zr_s rfl rfl rfl ?_
          refine zr_b rfl rfl ?_
          have hb : Nat.ble (ord k) (ord (m' + 1)) = false := by
            cases hb : Nat.ble (ord k) (ord (m' + 1)) with
            | false => rfl
            | true => exact absurd (Nat.le_of_ble_eq_true hb) (by omega)
          rw [show ((m' + 1 : Nat) : Int) + -1 = (m' : Int) by omega]
          refine ih m' (by omega) (by omega) ?_
          rw [he, hS, hb]
          rfl
    repeat refine zr_s rfl rfl rfl ?_
    refine zr_zge rfl (by omega) (fun _ => ?_) (fun h => by omega)
    repeat refine zr_t 47 rfl rfl rfl rfl ?_
    rw [hB.1, show (pn P : Int) - 1 = ((pn P - 1 : Nat) : Int) by omega]
    exact floop (pn P - 1 - (k + 1)) (pn P - 1) (by omega) (Nat.le_refl _) rfl
  have kloop : ∀ (m : Nat) (o2 o3 o4 : Option zV), m ≤ pn P - 1 → ysc ord (pn P - 1) = ysc ord m → zr (zSh L) 1 tX8_nextRow 7 [some (zvr 34), some (zvi ((m : Int) - 1)), o2, o3, o4] [] M (fun v M1 => (∀ a, a ≠ 49 → M1 a = M a) ∧ ((v = some (.inl 0) ∧ ysc ord (pn P - 1) = 0) ∨ (v = some (.inl 1) ∧ ∃ k, ysc ord (pn P - 1) = k + 1 ∧ ∀ i, i < pn P → M1 49 i = ynq (pn P) ord k (ysl ord (ord k) (pn P - 1)) i))) := by
    intro m
    induction m with
    | zero =>
      intro o2 o3 o4 hm he
      repeat refine zr_s rfl rfl rfl ?_
      refine zr_zlt rfl (by omega) (fun _ => ?_) (fun h => by omega)
      exact stop _ _ _ _ (by omega) (by omega) he
    | succ m ih =>
      intro o2 o3 o4 hm he
      obtain ⟨r1, r1n⟩ := hR m (by omega)
      obtain ⟨r2, r2n⟩ := hR (m + 1) (by omega)
      have hS : ysc ord (m + 1) = bif Nat.ble (ord m) (ord (m + 1)) then m + 1 else ysc ord m := rfl
      rw [show ((m + 1 : Nat) : Int) - 1 = (m : Int) by omega]
      repeat refine zr_s rfl rfl rfl ?_
      refine zr_zlt rfl (by omega) (fun h => by omega) (fun _ => ?_)
      repeat refine zr_s rfl rfl rfl ?_
      refine zr_ald (m) rfl rfl rfl (by omega) (by decide) ?_
      repeat refine zr_s rfl rfl rfl ?_
      refine zr_ald (m + 1) rfl rfl rfl (by omega) (by decide) ?_
      rw [r1, r2]
      refine zr_ile rfl (by omega) (by omega) (fun h => ?_) (fun h => ?_)
      · refine found m _ _ _ ?_
        rw [he, hS, Nat.ble_eq_true_of_le (by omega)]
        rfl
      · repeat refine zr_s rfl rfl rfl ?_
        refine zr_b rfl rfl ?_
        have hb : Nat.ble (ord m) (ord (m + 1)) = false := by
          cases hb : Nat.ble (ord m) (ord (m + 1)) with
          | false => rfl
          | true => exact absurd (Nat.le_of_ble_eq_true hb) (by omega)
        refine ih _ _ _ (by omega) ?_
        rw [he, hS, hb]
        rfl
  refine zf_of rfl (Nat.le_of_ble_eq_true rfl) ?_
  by_cases h0 : pn P = 0
  · have hB1 : M 34 5 = 0 := by rw [hB.1, h0]; rfl
    repeat refine zr_t 7 rfl rfl rfl rfl ?_
    rw [hB1]
    repeat refine zr_s rfl rfl rfl ?_
    refine zr_zlt rfl (by decide) (fun _ => ?_) (fun h => absurd h (by decide))
    exact stop (0 - 2) _ _ _ (by decide) (by decide) (by rw [h0]; rfl)
  · repeat refine zr_t 7 rfl rfl rfl rfl ?_
    rw [hB.1, show (pn P : Int) - 2 = ((pn P - 1 : Nat) : Int) - 1 by omega]
    exact kloop (pn P - 1) _ _ _ (Nat.le_refl _) rfl
/-- what the reference's loop over all rows answers from 'best' on -/
def yRs (P : zP) (best : Int) (ls : List (List Nat)) (r : Int) : Prop := (r = best ∨ ∃ l, l ∈ ls ∧ yKp P (yat l) ∧ ∃ f, yGr P (yat l) f ∧ zlen P f (pn P) = r) ∧ (0 ≤ best → 0 ≤ r ∧ r ≤ best) ∧ ∀ l, l ∈ ls → yKp P (yat l) → ∃ f, yGr P (yat l) f ∧ 0 ≤ r ∧ r ≤ zlen P f (pn P)
theorem yRs_cons {P : zP} {best b1 r : Int} {l : List Nat} {ls : List (List Nat)} (h : yRs P b1 ls r) (h1 : (b1 = best ∧ ¬ yKp P (yat l)) ∨ (yKp P (yat l) ∧ ∃ f, yGr P (yat l) f ∧ 0 ≤ b1 ∧ b1 ≤ zlen P f (pn P) ∧ (b1 = zlen P f (pn P) ∨ b1 = best) ∧ (0 ≤ best → b1 ≤ best))) : yRs P best (l :: ls) r := by
  obtain ⟨g1, g2, g3⟩ := h
  rcases h1 with ⟨rfl, hn⟩ | ⟨hk, f, hf, h0, hle, heq, hb⟩
  · refine ⟨g1.elim Or.inl (fun ⟨x, hx, z⟩ => Or.inr ⟨x, List.mem_cons_of_mem _ hx, z⟩), g2, fun x hx hkx => ?_⟩
    rcases List.mem_cons.mp hx with e | e
    · subst e
      exact absurd hkx hn
    · exact g3 x e hkx
  · have g4 := g2 h0
    refine ⟨?_, fun hbest => ⟨g4.1, by have := hb hbest; omega⟩, fun x hx hkx => ?_⟩
    · rcases g1 with g1 | ⟨x, hx, z⟩
      · rcases heq with e | e
        · exact Or.inr ⟨l, List.mem_cons_self .., hk, f, hf, by omega⟩
        · exact Or.inl (by omega)
      · exact Or.inr ⟨x, List.mem_cons_of_mem _ hx, z⟩
    · rcases List.mem_cons.mp hx with e | e
      · subst e
        exact ⟨f, hf, g4.1, by omega⟩
      · exact g3 x e hkx
theorem yLc_congr {P : zP} {ord : Nat → Nat} {f g : Nat → Int} {k : Nat} {j : Nat} {y : Int} (e : ∀ p, p < k → f (ord p) = g (ord p)) (h : zLc P ord f k (ylr P ord f j 0 k) y) : zLc P ord g k (ylr P ord g j 0 k) y := by
  have e1 : ylr P ord f j 0 k = ylr P ord g j 0 k := ylr_congr k e
  have e2 : ∀ z, zct (fun p => f (ord p)) z k = zct (fun p => g (ord p)) z k := fun z => zct_congr k e
  unfold zLc at h ⊢
  rw [e1] at h
  simp only [e2] at h
  exact h
theorem sp_s_row {Q : Option zV → zM → Prop} {l : List Nat} {best : Int} {o3 : Option zV} (hl : l.Perm (List.range (pn P))) (hB : zBm M P) (hw : zWf P) (hD : zDm M P) (h7 : pn P ≤ 7) (hR : ∀ p, p < pn P → M 49 p = yat l p) (hb : -1 ≤ best ∧ best ≤ 2000000) (k : ∀ (N1 : zM) (b1 : Int) (p3 : Option zV), (∀ a, a ≠ 50 → N1 a = M a) → -1 ≤ b1 → b1 ≤ 2000000 → ((b1 = best ∧ ¬ yKp P (yat l)) ∨ (yKp P (yat l) ∧ ∃ f, yGr P (yat l) f ∧ 0 ≤ b1 ∧ b1 ≤ zlen P f (pn P) ∧ (b1 = zlen P f (pn P) ∨ b1 = best) ∧ (0 ≤ best → b1 ≤ best))) → zr (zSh L) 2 tX8_findShortest 99 [some (zvr 34), some (zvi b1), some (zvi 1), p3] [] N1 Q) : zr (zSh L) 2 tX8_findShortest 31 [some (zvr 34), some (zvi best), some (zvi 1), o3] [] M Q := by
  have h60 := hw.1
  repeat refine zr_s rfl rfl rfl ?_
  refine zr_c rfl rfl rfl (zf_mono (Nat.le_of_ble_eq_true rfl) (sp_M_isKept (ord := yat l) hB hw hD (fun p hp => ⟨hR p hp, yat_lt hl hp⟩))) (fun v M1 hv => ?_)
  obtain ⟨e0, hv⟩ := hv
  have e0 := e0.symm
  subst e0
  rcases hv with ⟨rfl, hk⟩ | ⟨rfl, hk⟩
  rotate_left
  · refine zr_zeq rfl (by decide) (fun _ => ?_) (fun h => absurd rfl h)
    exact k M best _ (fun _ _ => rfl) hb.1 hb.2 (Or.inl ⟨rfl, hk⟩)
  refine zr_zeq rfl (by decide) (fun h => by cases h) (fun _ => ?_)
  have loop : ∀ (t i : Nat) (N : zM), i + t = pn P → (∀ a, a ≠ 50 → N a = M a) → (∀ p, p < i → zLc P (yat l) (N 50) p (ylr P (yat l) (N 50) (yat l p) 0 p) (N 50 (yat l p)) ∧ 0 ≤ N 50 (yat l p) ∧ N 50 (yat l p) ≤ 13 * p + 13) → zr (zSh L) 2 tX8_findShortest 40 [some (zvr 34), some (zvi best), some (zvi 1), some (zvi i)] [] N Q := by
    intro t
    induction t with
    | zero =>
      intro i N hi hN hE
      have hn : N 34 5 = pn P := by rw [hN 34 (by decide)]; exact hB.1
      have hBN : zBm N P := zBm_of hB (fun a h1 h2 => hN a (by omega))
      have hf : ∀ q, q < pn P → -3 ≤ N 50 q ∧ N 50 q ≤ 1000000 := fun q hq => by
        obtain ⟨p, hp, rfl⟩ := yat_surj hl hq
        have := (hE p (by omega)).2
        omega
      have hlI := zlen_I hw hf (pn P) (Nat.le_refl _)
      have hgr : yGr P (yat l) (N 50) := fun q hq => (hE q (by omega)).1
      repeat refine zr_s rfl rfl rfl ?_
      rw [hn]
      refine zr_ige rfl (by omega) (by omega) (fun h => ?_) (fun h => by omega)
      repeat refine zr_s rfl rfl rfl ?_
      refine zr_cr rfl rfl rfl (zf_mono (Nat.le_of_ble_eq_true rfl) (sp_M_lengthOf (c := 50) hBN hw rfl hf)) ?_
      repeat refine zr_s rfl rfl rfl ?_
      refine zr_zlt rfl (by omega) (fun h2 => ?_) (fun h2 => ?_)
      · repeat refine zr_t 99 rfl rfl rfl rfl ?_
        exact k N _ _ hN (by omega) (by omega) (Or.inr ⟨hk, N 50, hgr, hlI.1, Int.le_refl _, Or.inl rfl, fun h => by omega⟩)
      · repeat refine zr_s rfl rfl rfl ?_
        refine zr_ige rfl (by omega) (by omega) (fun h3 => ?_) (fun h3 => ?_)
        · repeat refine zr_t 99 rfl rfl rfl rfl ?_
          exact k N _ _ hN (by omega) (by omega) (Or.inr ⟨hk, N 50, hgr, h2, h3, Or.inr rfl, fun _ => Int.le_refl _⟩)
        · repeat refine zr_t 99 rfl rfl rfl rfl ?_
          exact k N _ _ hN (by omega) (by omega) (Or.inr ⟨hk, N 50, hgr, hlI.1, Int.le_refl _, Or.inl rfl, fun h => by omega⟩)
    | succ t ih =>
      intro i N hi hN hE
      have hn : N 34 5 = pn P := by rw [hN 34 (by decide)]; exact hB.1
      have hBN : zBm N P := zBm_of hB (fun a h1 h2 => hN a (by omega))
      have hDN : zDm N P := fun a b ha hb => by rw [hN 41 (by decide)]; exact hD a b ha hb
      have hRN : ∀ p, p < pn P → N 49 p = yat l p := fun p hp => by rw [hN 49 (by decide)]; exact hR p hp
      have hil := yat_lt hl (p := i) (by omega)
      repeat refine zr_s rfl rfl rfl ?_
      rw [hn]
      refine zr_ige rfl (by omega) (by omega) (fun h => by omega) (fun h => ?_)
      repeat refine zr_s rfl rfl rfl ?_
      refine zr_ald (i) rfl rfl rfl (by omega) (by decide) ?_
      rw [hRN i (by omega)]
      repeat refine zr_s rfl rfl rfl ?_
      refine zr_c rfl rfl rfl (zf_mono (Nat.le_of_ble_eq_true rfl) (sp_M_leastCycle (ord := yat l) (c := 50) (b := 13 * (i : Int)) hBN hw hDN rfl (by omega) (fun p hp => ⟨hRN p (by omega), yat_lt hl (by omega)⟩) (fun p hp => by have := (hE p hp).2; omega) (by omega) (by omega))) (fun v M1 hv => ?_)
      obtain ⟨y, rfl, e0, hy, hy2⟩ := hv
      have e0 := e0.symm
      subst e0
      have hy0 : 0 ≤ y := by
        have h1 := hy.1
        have h2 := ((ylr_le (P := P) (ord := yat l) (f := N 50) (j := yat l i) (c := 0) i).mp (Int.le_refl _)).1
        omega
      refine zr_ast (yat l i) rfl rfl rfl (by omega) (by decide) ?_
      repeat refine zr_s rfl rfl rfl ?_
      refine zr_b rfl rfl ?_
      have hold : ∀ p, p < i → zup N 50 (yat l i) y 50 (yat l p) = N 50 (yat l p) := fun p hp => zup_off (fun e => by have := yat_inj hl (by omega) (by omega) e; omega)
      refine ih (i + 1) _ (by omega) (fun a ha => by rw [zup_row ha]; exact hN a ha) (fun p hp => ?_)
      by_cases hpi : p = i
      · subst hpi
        rw [zup_at]
        exact ⟨yLc_congr (fun q hq => (hold q hq).symm) hy, hy0, by omega⟩
      · obtain ⟨g1, g2⟩ := hE p (by omega)
        rw [hold p (by omega)]
        exact ⟨yLc_congr (fun q hq => (hold q (by omega)).symm) g1, g2⟩
  repeat refine zr_t 40 rfl rfl rfl rfl ?_
  exact loop (pn P) 0 M (by omega) (fun _ _ => rfl) (fun p hp => by omega)
theorem sp_M_findShortest (hB : zBm M P) (hw : zWf P) (hD : zDm M P) (h7 : pn P ≤ 7) : zf (zSh L) 3 kX8_findShortest [zvr 34] M (fun v M1 => (∀ a, a ≠ 49 → a ≠ 50 → M1 a = M a) ∧ ∃ r, v = some (.inl r) ∧ yOpt P r) := by
  have h60 := hw.1
  have rows : ∀ (t : List (List Nat)) (l : List Nat) (N : zM) (best : Int) (o3 : Option zV), ych (pn P) (l :: t) = true → (∀ x, x ∈ l :: t → x.Perm (List.range (pn P))) → (∀ a, a ≠ 49 → a ≠ 50 → N a = M a) → (∀ p, p < pn P → N 49 p = yat l p) → -1 ≤ best ∧ best ≤ 2000000 → zr (zSh L) 2 tX8_findShortest 31 [some (zvr 34), some (zvi best), some (zvi 1), o3] [] N (fun v M1 => (∀ a, a ≠ 49 → a ≠ 50 → M1 a = M a) ∧ ∃ r, v = some (.inl r) ∧ yRs P best (l :: t) r) := by
    intro t
    induction t with
    | nil =>
      intro l N best o3 hch hpm hN hR hb
      have hl := hpm l (List.mem_cons_self ..)
      refine sp_s_row hl (zBm_of hB (fun a h1 h2 => hN a (by omega) (by omega))) hw (fun a b ha hb => by rw [hN 41 (by decide) (by decide)]; exact hD a b ha hb) h7 hR hb (fun N1 b1 p3 g1 g2 g3 g4 => ?_)
      have hN1 : ∀ a, a ≠ 49 → a ≠ 50 → N1 a = M a := fun a h1 h2 => by rw [g1 a h2]; exact hN a h1 h2
      have hsc : ysc (yat l) (pn P - 1) = 0 := by
        have hch : ((match ynx (pn P) l with
          | none => true
          | some c => false) && true) = true := by
          have h2 := hch
          unfold ych at h2
          cases hx : ynx (pn P) l with
          | none => rfl
          | some c =>
            rw [hx] at h2
            exact h2
        cases hs : ysc (yat l) (pn P - 1) with
        | zero => rfl
        | succ k =>
          unfold ynx at hch
          rw [hs] at hch
          cases hch
      repeat refine zr_s rfl rfl rfl ?_
      refine zr_c rfl rfl rfl (zf_mono (Nat.le_of_ble_eq_true rfl) (sp_M_nextRow (P := P) (ord := yat l) (zBm_of hB (fun a h1 h2 => hN1 a (by omega) (by omega))) hw (fun p hp => ⟨by rw [g1 49 (by decide)]; exact hR p hp, yat_lt hl hp⟩))) (fun v N2 hv => ?_)
      obtain ⟨g5, hv⟩ := hv
      rcases hv with ⟨rfl, hv⟩ | ⟨rfl, k, hv, -⟩
      · repeat refine zr_s rfl rfl rfl ?_
        refine zr_b rfl rfl ?_
        repeat refine zr_s rfl rfl rfl ?_
        refine zr_zeq rfl (by decide) (fun _ => ?_) (fun h => absurd rfl h)
        repeat refine zr_s rfl rfl rfl ?_
        refine zr_ret rfl ⟨fun a h1 h2 => by rw [g5 a h1]; exact hN1 a h1 h2, b1, rfl, yRs_cons ⟨Or.inl rfl, fun h => ⟨h, Int.le_refl _⟩, fun x hx => by cases hx⟩ g4⟩
      · rw [hsc] at hv
        cases hv
    | cons l2 t ih =>
      intro l N best o3 hch hpm hN hR hb
      have hl := hpm l (List.mem_cons_self ..)
      refine sp_s_row hl (zBm_of hB (fun a h1 h2 => hN a (by omega) (by omega))) hw (fun a b ha hb => by rw [hN 41 (by decide) (by decide)]; exact hD a b ha hb) h7 hR hb (fun N1 b1 p3 g1 g2 g3 g4 => ?_)
      have hN1 : ∀ a, a ≠ 49 → a ≠ 50 → N1 a = M a := fun a h1 h2 => by rw [g1 a h2]; exact hN a h1 h2
      have hch2 : ynx (pn P) l = some l2 ∧ ych (pn P) (l2 :: t) = true := by
        have h2 : ((match ynx (pn P) l with
          | none => false
          | some c => yeq c l2) && ych (pn P) (l2 :: t)) = true := by
          have h2 := hch
          unfold ych at h2
          cases hx : ynx (pn P) l with
          | none =>
            rw [hx] at h2
            exact h2
          | some c =>
            rw [hx] at h2
            exact h2
        rw [Bool.and_eq_true] at h2
        refine ⟨?_, h2.2⟩
        cases hx : ynx (pn P) l with
        | none =>
          rw [hx] at h2
          cases h2.1
        | some c =>
          rw [hx] at h2
          rw [yeq_iff c l2 h2.1]
      repeat refine zr_s rfl rfl rfl ?_
      refine zr_c rfl rfl rfl (zf_mono (Nat.le_of_ble_eq_true rfl) (sp_M_nextRow (P := P) (ord := yat l) (zBm_of hB (fun a h1 h2 => hN1 a (by omega) (by omega))) hw (fun p hp => ⟨by rw [g1 49 (by decide)]; exact hR p hp, yat_lt hl hp⟩))) (fun v N2 hv => ?_)
      obtain ⟨g5, hv⟩ := hv
      rcases hv with ⟨rfl, hv⟩ | ⟨rfl, k, hv, hq⟩
      · have h3 := hch2.1
        unfold ynx at h3
        rw [hv] at h3
        cases h3
      · have h3 := hch2.1
        unfold ynx at h3
        rw [hv] at h3
        have h4 : (List.range (pn P)).map (ynq (pn P) (yat l) k (ysl (yat l) (yat l k) (pn P - 1))) = l2 := Option.some.inj h3
        repeat refine zr_s rfl rfl rfl ?_
        refine zr_b rfl rfl ?_
        repeat refine zr_s rfl rfl rfl ?_
        refine zr_zeq rfl (by decide) (fun h => by cases h) (fun _ => ?_)
        refine zr_post (ih l2 N2 b1 _ hch2.2 (fun x hx => hpm x (List.mem_cons_of_mem _ hx)) (fun a h1 h2 => by rw [g5 a h1]; exact hN1 a h1 h2) (fun p hp => ?_) ⟨g2, g3⟩) (fun r M2 hr => ?_)
        · rw [hq p hp, ← h4, yat_map _ _ hp]
        · obtain ⟨r1, r, r2, r3⟩ := hr
          exact ⟨r1, r, r2, yRs_cons r3 g4⟩
  obtain ⟨t, ht⟩ := yprm_hd (pn P) (List.range (pn P)) List.length_range
  have hch := ych_all h7
  rw [ht] at hch
  have hpm : ∀ x, x ∈ List.range (pn P) :: t ↔ x.Perm (List.range (pn P)) := fun x => by
    rw [← ht]
    exact yprm_iff (pn P) (List.range (pn P)) x List.length_range
  have fill : ∀ (u i : Nat) (o2 o3 : Option zV) (N : zM), i + u = pn P → (∀ a, a ≠ 49 → N a = M a) → (∀ p, p < i → N 49 p = p) → zr (zSh L) 2 tX8_findShortest 2 [some (zvr 34), some (zvi i), o2, o3] [] N (fun v M1 => (∀ a, a ≠ 49 → a ≠ 50 → M1 a = M a) ∧ ∃ r, v = some (.inl r) ∧ yOpt P r) := by
    intro u
    induction u with
    | zero =>
      intro i o2 o3 N hi hN hE
      have hn : N 34 5 = pn P := by rw [hN 34 (by decide)]; exact hB.1
      repeat refine zr_s rfl rfl rfl ?_
      rw [hn]
      refine zr_ige rfl (by omega) (by omega) (fun h => ?_) (fun h => by omega)
      repeat refine zr_s rfl rfl rfl ?_
      refine zr_zeq rfl (by decide) (fun h => by cases h) (fun _ => ?_)
      refine zr_post (rows t (List.range (pn P)) N (-1) _ hch (fun x hx => (hpm x).mp hx) (fun a h1 h2 => hN a h1) (fun p hp => ?_) (by decide)) (fun r M2 hr => ?_)
      · rw [hE p (by omega)]
        have := yat_map (pn P) (fun x => x) hp
        rw [List.map_id'] at this
        rw [this]
      · obtain ⟨r1, r, r2, r3, r4, r5⟩ := hr
        refine ⟨r1, r, r2, yall hw ?_ (fun l hl hk => ?_)⟩
        · rcases r3 with r3 | ⟨l, hl, hk, f, hf, e⟩
          · -- the order as it stands is kept
            have hkid : yKp P (yat (List.range (pn P))) := fun a b hab hb h => by
              have e1 := yat_map (pn P) (fun x => x) (i := a) (by omega)
              have e2 := yat_map (pn P) (fun x => x) hb
              rw [List.map_id'] at e1 e2
              rw [e1, e2] at h
              omega
            obtain ⟨f, -, h0, -⟩ := r5 (List.range (pn P)) (List.mem_cons_self ..) hkid
            omega
          · exact ⟨l, (hpm l).mp hl, hk, f, hf, e⟩
        · obtain ⟨f, h1, -, h2⟩ := r5 l ((hpm l).mpr hl) hk
          exact ⟨f, h1, h2⟩
    | succ u ih =>
      intro i o2 o3 N hi hN hE
      have hn : N 34 5 = pn P := by rw [hN 34 (by decide)]; exact hB.1
      repeat refine zr_s rfl rfl rfl ?_
      rw [hn]
      refine zr_ige rfl (by omega) (by omega) (fun h => by omega) (fun h => ?_)
      repeat refine zr_s rfl rfl rfl ?_
      refine zr_ast (i) rfl rfl rfl (by omega) (by decide) ?_
      repeat refine zr_s rfl rfl rfl ?_
      refine zr_b rfl rfl ?_
      refine ih (i + 1) _ _ _ (by omega) (fun a ha => by rw [zup_row ha]; exact hN a ha) (fun p hp => ?_)
      by_cases hpi : p = i
      · rw [hpi, zup_at]
      · rw [zup_off hpi]
        exact hE p (by omega)
  refine zf_of rfl (Nat.le_of_ble_eq_true rfl) ?_
  repeat refine zr_t 2 rfl rfl rfl rfl ?_
  exact fill (pn P) 0 _ _ M (by omega) (fun _ _ => rfl) (fun p hp => by omega)
end ZX
