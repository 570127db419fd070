/-! THE REFERENCE'S LIST PLAN is the class's -/
theorem zlc_le {g f : Nat → Int} {c : Int} : ∀ m, zlc g f m ≤ c ↔ 0 ≤ c ∧ ∀ a, a < m → g a ≠ -3 → 0 ≤ f a → f a + g a ≤ c
  | 0 => by
    show (0 : Int) ≤ c ↔ _
    exact ⟨fun h => ⟨h, fun a ha => by omega⟩, fun h => h.1⟩
  | m + 1 => by
    have ih := zlc_le (g := g) (f := f) (c := c) m
    show (if g m ≠ -3 ∧ 0 ≤ f m then max (zlc g f m) (f m + g m) else zlc g f m) ≤ c ↔ _
    by_cases h : g m ≠ -3 ∧ 0 ≤ f m
    · rw [if_pos h]
      constructor
      · intro h2
        have h3 := ih.mp (by omega)
        refine ⟨h3.1, fun a ha h4 h5 => ?_⟩
        by_cases ham : a = m
        · subst ham
          omega
        · exact h3.2 a (by omega) h4 h5
      · intro h2
        have h3 := ih.mpr ⟨h2.1, fun a ha => h2.2 a (by omega)⟩
        have h4 := h2.2 m (by omega) h.1 h.2
        omega
    · rw [if_neg h, ih]
      constructor
      · intro h2
        refine ⟨h2.1, fun a ha h4 h5 => ?_⟩
        by_cases ham : a = m
        · subst ham
          exact absurd ⟨h4, h5⟩ h
        · exact h2.2 a (by omega) h4 h5
      · intro h2
        exact ⟨h2.1, fun a ha => h2.2 a (by omega)⟩
def zlm (x : Int) : Int := if x = -3 then -1 else x
/-- is a no hindrance for j in cycle c -/
def zoj (P : zP) (f : Nat → Int) (j : Nat) (c : Int) (a : Nat) : Prop := zdc P a j = -3 ∨ (f a ≠ -3 ∧ f a + zdc P a j ≤ c)
theorem zwt_z {P : zP} {f : Nat → Int} {j : Nat} : ∀ {m}, (∀ a, a < m → zdc P a j ≠ -3 → f a ≠ -3) → zwt P f j m = 0
  | 0, _ => rfl
  | m + 1, h => by
    show zwt P f j m + _ = 0
    rw [zwt_z (m := m) (fun a ha => h a (by omega))]
    have := h m (by omega)
    simp
    omega
theorem zoj_iff {P : zP} {f : Nat → Int} {j : Nat} {c : Int} (hc : 0 ≤ c) (hf : ∀ a, a < j → f a = -3 ∨ 0 ≤ f a) : (∀ a, a < j → zoj P f j c a) ↔ zwt P f j j = 0 ∧ zpf P f j ≤ c := by
  have hz : zpf P f j ≤ c ↔ _ := zlc_le (g := fun i => zdc P i j) (f := f) (c := c) j
  rw [hz]
  constructor
  · intro h
    refine ⟨zwt_z (fun a ha h2 => ?_), hc, fun a ha h2 h3 => ?_⟩
    · rcases h a ha with h3 | h3
      · exact absurd h3 h2
      · exact h3.1
    · rcases h a ha with h4 | h4
      · exact absurd h4 h2
      · exact h4.2
  · rintro ⟨h1, -, h2⟩ a ha
    by_cases h3 : zdc P a j = -3
    · exact Or.inl h3
    · have h4 := zwt_0' j h1 a ha h3
      exact Or.inr ⟨h4, h2 a ha h3 (by have := hf a ha; omega)⟩
section ZX
variable {L : Nat} {M : zM} {P : zP}
theorem sp_M_mayBegin {f : Nat → Int} {j : Nat} {c : Int} (hw : zWf P) (hD : zDm M P) (hj : j < pn P) (hc : 0 ≤ c ∧ c ≤ 100000) (hf : ∀ i, i < pn P → M 44 i = zlm (f i) ∧ (f i = -3 ∨ (0 ≤ f i ∧ f i ≤ 100000))) : zf (zSh L) 2 kX8_mayBegin [zvr 34, zvi j, zvi c] M (fun v M1 => v = some (.inl (zb (decide (zwt P f j j = 0 ∧ zpf P f j ≤ c)))) ∧ M1 = M) := by
  have h60 := hw.1
  have hiff := zoj_iff (P := P) (f := f) (j := j) (c := c) hc.1 (fun a ha => by have := (hf a (by omega)).2; omega)
  have loop : ∀ (t i : Nat), i + t = j → (∀ a, a < i → zoj P f j c a) → zr (zSh L) 1 tX8_mayBegin 5 [some (zvr 34), some (zvi j), some (zvi c), some (zvi 1), some (zvi i)] [] M (fun v M1 => v = some (.inl (zb (decide (zwt P f j j = 0 ∧ zpf P f j ≤ c)))) ∧ M1 = M) := by
    intro t
    induction t with
    | zero =>
      intro i hi ha
      repeat refine zr_s rfl rfl rfl ?_
      refine zr_ige rfl (by omega) (by omega) (fun h => ?_) (fun h => by omega)
      repeat refine zr_s rfl rfl rfl ?_
      exact zr_retz rfl (by omega) (⟨by rw [zb_t (by rw [decide_eq_true_eq, ← hiff]; exact fun a h2 => ha a (by omega))], rfl⟩)
    | succ t ih =>
      intro i hi ha
      have hz := zdm_0 hw (i := i) (j := j) (by omega) (by omega)
      have hzI := zdm_I hw (i := i) (j := j) (by omega) (by omega)
      obtain ⟨hfi, hfr⟩ := hf i (by omega)
      have no : ¬ zoj P f j c i → zr (zSh L) 1 tX8_mayBegin 58 [some (zvr 34), some (zvi j), some (zvi c), some (zvi 1), some (zvi i)] [] M (fun v M1 => v = some (.inl (zb (decide (zwt P f j j = 0 ∧ zpf P f j ≤ c)))) ∧ M1 = M) := fun hn => by
        have fin : ∀ (q : Int), zr (zSh L) 1 tX8_mayBegin 66 [some (zvr 34), some (zvi j), some (zvi c), some (zvi 0), some (zvi q)] [] M (fun v M1 => v = some (.inl (zb (decide (zwt P f j j = 0 ∧ zpf P f j ≤ c)))) ∧ M1 = M) := fun q => by
          repeat refine zr_s rfl rfl rfl ?_
          exact zr_retz rfl (by omega) (⟨by rw [zb_f (by rw [decide_eq_false_iff_not, ← hiff]; exact fun z => hn (z i (by omega)))], rfl⟩)
        repeat refine zr_s rfl rfl rfl ?_
        refine zr_b rfl rfl ?_
        repeat refine zr_s rfl rfl rfl ?_
        refine zr_ige rfl (by omega) (by omega) (fun h => fin _) (fun h => ?_)
        repeat refine zr_s rfl rfl rfl ?_
        refine zr_zeq rfl (by decide) (fun _ => fin _) (fun h => absurd rfl h)
      have yes : zoj P f j c i → zr (zSh L) 1 tX8_mayBegin 54 [some (zvr 34), some (zvi j), some (zvi c), some (zvi 1), some (zvi i)] [] M (fun v M1 => v = some (.inl (zb (decide (zwt P f j j = 0 ∧ zpf P f j ≤ c)))) ∧ M1 = M) := fun hy => by
        repeat refine zr_s rfl rfl rfl ?_
        refine zr_b rfl rfl ?_
        exact ih (i + 1) (by omega) (fun a h2 => by
          by_cases h3 : a = i
          · rw [h3]; exact hy
          · exact ha a (by omega))
      repeat refine zr_s rfl rfl rfl ?_
      refine zr_ige rfl (by omega) (by omega) (fun h => by omega) (fun h => ?_)
      repeat refine zr_s rfl rfl rfl ?_
      refine zr_zeq rfl (by decide) (fun h => by cases h) (fun _ => ?_)
      repeat refine zr_s rfl rfl rfl ?_
      refine zr_cr rfl rfl rfl (zf_mono (Nat.le_of_ble_eq_true rfl) (sp_M_delayAt hw hD (by omega) (by omega))) ?_
      refine zr_zlt rfl (by omega) (fun h2 => yes (Or.inl (Decidable.byContradiction fun z => by have := hz.1.mpr z; omega))) (fun h2 => ?_)
      have hne : zdc P i j ≠ -3 := hz.1.mp h2
      have hde := hz.2 hne
      repeat refine zr_s rfl rfl rfl ?_
      refine zr_ald (i) rfl rfl rfl (by omega) (by decide) ?_
      rw [hfi]
      unfold zlm
      by_cases h3 : f i = -3
      · rw [if_pos h3]
        refine zr_zlt rfl (by decide) (fun _ => no (fun z => ?_)) (fun h => absurd h (by decide))
        rcases z with z | z
        · exact hne z
        · exact z.1 h3
      rw [if_neg h3]
      refine zr_zlt rfl (by omega) (fun h => by omega) (fun _ => ?_)
      repeat refine zr_s rfl rfl rfl ?_
      refine zr_ald (i) rfl rfl rfl (by omega) (by decide) ?_
      repeat refine zr_s rfl rfl rfl ?_
      refine zr_cr rfl rfl rfl (zf_mono (Nat.le_of_ble_eq_true rfl) (sp_M_delayAt hw hD (by omega) (by omega))) ?_
      repeat refine zr_s rfl rfl rfl ?_
      rw [hfi, zlm, if_neg h3, hde.1]
      refine zr_igt rfl (by omega) (by omega) (fun h4 => no (fun z => ?_)) (fun h4 => yes (Or.inr ⟨h3, h4⟩))
      rcases z with z | z
      · exact hne z
      · have := z.2
        omega
  refine zf_of rfl (Nat.le_of_ble_eq_true rfl) ?_
  repeat refine zr_t 5 rfl rfl rfl rfl ?_
  exact loop j 0 (by omega) (fun a ha => by omega)
theorem sp_l_best {Q : Option zV → zM → Prop} {f W : Nat → Int} {c : Int} {o1 o3 o5 o6 : Option zV} (hB : zBm M P) (hw : zWf P) (hD : zDm M P) (hc : 0 ≤ c ∧ c ≤ 100000) (hf : ∀ i, i < pn P → M 44 i = zlm (f i) ∧ (f i = -3 ∨ (0 ≤ f i ∧ f i ≤ 100000))) (hW : ∀ i, i < pn P → M 42 i = W i ∧ zI (W i)) (k : ∀ p6, zr (zSh L) 2 tX8_makeList 119 [some (zvr 34), o1, some (zvi c), o3, some (zvi 1), some (zvi (zlm (zbst P W f c (pn P)))), p6] [] M Q) : zr (zSh L) 2 tX8_makeList 52 [some (zvr 34), o1, some (zvi c), o3, some (zvi 1), o5, o6] [] M Q := by
  have h60 := hw.1
  have loop : ∀ (t j : Nat), j + t = pn P → zr (zSh L) 2 tX8_makeList 58 [some (zvr 34), o1, some (zvi c), o3, some (zvi 1), some (zvi (zlm (zbst P W f c j))), some (zvi j)] [] M Q := by
    intro t
    induction t with
    | zero =>
      intro j hj
      repeat refine zr_s rfl rfl rfl ?_
      rw [hB.1]
      refine zr_ige rfl (by omega) (by omega) (fun h => ?_) (fun h => by omega)
      rw [show j = pn P by omega]
      exact k _
    | succ t ih =>
      intro j hj
      have nxt : ∀ x : Int, x = zlm (zbst P W f c (j + 1)) → zr (zSh L) 2 tX8_makeList 113 [some (zvr 34), o1, some (zvi c), o3, some (zvi 1), some (zvi x), some (zvi j)] [] M Q := fun x hx => by
        repeat refine zr_s rfl rfl rfl ?_
        refine zr_b rfl rfl ?_
        rw [hx]
        exact ih (j + 1) (by omega)
      have bS : zbst P W f c (j + 1) = if zfree P f j = true ∧ zpf P f j ≤ c ∧ (zbst P W f c j = -3 ∨ W (zbst P W f c j).toNat < W j) then (j : Int) else zbst P W f c j := rfl
      obtain ⟨hfj, hfr⟩ := hf j (by omega)
      repeat refine zr_s rfl rfl rfl ?_
      rw [hB.1]
      refine zr_ige rfl (by omega) (by omega) (fun h => by omega) (fun h => ?_)
      repeat refine zr_s rfl rfl rfl ?_
      refine zr_ald (j) rfl rfl rfl (by omega) (by decide) ?_
      rw [hfj]
      by_cases h3 : f j = -3
      rotate_left
      · rw [show zlm (f j) = f j from if_neg h3]
        refine zr_zge rfl (by omega) (fun _ => ?_) (fun h => by omega)
        exact nxt _ (by rw [bS, if_neg (fun z => h3 (zfree_iff.mp z.1).1)])
      rw [show zlm (f j) = -1 from if_pos h3]
      refine zr_zge rfl (by decide) (fun h => absurd h (by decide)) (fun _ => ?_)
      have ask : (zbst P W f c j = -3 ∨ W (zbst P W f c j).toNat < W j) → zr (zSh L) 2 tX8_makeList 99 [some (zvr 34), o1, some (zvi c), o3, some (zvi 1), some (zvi (zlm (zbst P W f c j))), some (zvi j)] [] M Q := fun hb => by
        repeat refine zr_s rfl rfl rfl ?_
        refine zr_cr rfl rfl rfl (zf_mono (Nat.le_of_ble_eq_true rfl) (sp_M_mayBegin hw hD (by omega) hc hf)) ?_
        by_cases hm : zwt P f j j = 0 ∧ zpf P f j ≤ c
        · rw [zb_t (by rw [decide_eq_true_eq]; exact hm)]
          refine zr_zeq rfl (by decide) (fun h => by cases h) (fun _ => ?_)
          repeat refine zr_t 113 rfl rfl rfl rfl ?_
          exact nxt _ (by rw [bS, if_pos ⟨zfree_iff.mpr ⟨h3, hm.1⟩, hm.2, hb⟩, zlm, if_neg (by omega)])
        · rw [zb_f (by rw [decide_eq_false_iff_not]; exact hm)]
          refine zr_zeq rfl (by decide) (fun _ => ?_) (fun h => absurd rfl h)
          exact nxt _ (by rw [bS, if_neg (fun z => hm ⟨(zfree_iff.mp z.1).2, z.2.1⟩)])
      repeat refine zr_s rfl rfl rfl ?_
      rcases zbst_I P W f c j with hb | ⟨b, hb, hbj, -, -⟩
      · rw [hb, zlm, if_pos rfl]
        refine zr_zlt rfl (by decide) (fun _ => ?_) (fun h => absurd h (by decide))
        have := ask (Or.inl hb)
        rw [hb, zlm, if_pos rfl] at this
        exact this
      · rw [hb, zlm, if_neg (by omega)]
        refine zr_zlt rfl (by omega) (fun h => by omega) (fun _ => ?_)
        repeat refine zr_s rfl rfl rfl ?_
        refine zr_ald (j) rfl rfl rfl (by omega) (by decide) ?_
        repeat refine zr_s rfl rfl rfl ?_
        refine zr_ald (b) rfl rfl rfl (by omega) (by decide) ?_
        rw [(hW j (by omega)).1, (hW b (by omega)).1]
        refine zr_ile rfl (hW j (by omega)).2 (hW b (by omega)).2 (fun h4 => ?_) (fun h4 => ?_)
        · exact nxt _ (by rw [bS, if_neg (fun z => by rcases z.2.2 with z | z; omega; rw [hb, Int.toNat_natCast] at z; omega), hb, zlm, if_neg (by omega)])
        · have := ask (Or.inr (by rw [hb, Int.toNat_natCast]; exact h4))
          rw [hb, zlm, if_neg (by omega)] at this
          exact this
  repeat refine zr_t 58 rfl rfl rfl rfl ?_
  exact loop (pn P) 0 (by omega)
/-- where the reference stands when the class has given k their cycles -/
def zLi (P : zP) (W : Nat → Int) (k : Nat) (cy rm : Int) : Prop := (cy = (zls P W k).2.2.1 ∧ rm = pu P - (zls P W k).2.2.2) ∨ ((zls P W k).2.2.1 < cy ∧ cy ≤ zlcc P W (zls P W k) ∧ rm = pu P ∧ zlb1 P W (zls P W k) = -3)
theorem sp_M_makeList {W : Nat → Int} (hB : zBm M P) (hw : zWf P) (hD : zDm M P) (hW : ∀ i, i < pn P → M 42 i = W i ∧ zI (W i)) : zf (zSh L) 3 kX8_makeList [zvr 34] M (fun v M1 => v = none ∧ (∀ a, a ≠ 44 → a ≠ 45 → M1 a = M a) ∧ (∀ i, i < pn P → M1 44 i = (zls P W (pn P)).1 i) ∧ ∀ k, k < pn P → M1 45 k = (zls P W (pn P)).2.1 k) := by
  have h60 := hw.1
  have hu := hw.2.1
  have hu8 := hw.2.2.1
  have hfill : ∀ (t j : Nat) (o2 o3 o4 o5 o6 : Option zV) (N : zM), j + t = pn P → (∀ a, a ≠ 44 → a ≠ 45 → N a = M a) → (∀ i, i < j → N 44 i = -1) → (∀ N, (∀ a, a ≠ 44 → a ≠ 45 → N a = M a) → (∀ i, i < pn P → N 44 i = -1) → ∀ o1, zr (zSh L) 2 tX8_makeList 23 [some (zvr 34), o1, o2, o3, o4, o5, o6] [] N (fun v M1 => v = none ∧ (∀ a, a ≠ 44 → a ≠ 45 → M1 a = M a) ∧ (∀ i, i < pn P → M1 44 i = (zls P W (pn P)).1 i) ∧ ∀ k, k < pn P → M1 45 k = (zls P W (pn P)).2.1 k)) → zr (zSh L) 2 tX8_makeList 2 [some (zvr 34), some (zvi j), o2, o3, o4, o5, o6] [] N (fun v M1 => v = none ∧ (∀ a, a ≠ 44 → a ≠ 45 → M1 a = M a) ∧ (∀ i, i < pn P → M1 44 i = (zls P W (pn P)).1 i) ∧ ∀ k, k < pn P → M1 45 k = (zls P W (pn P)).2.1 k) := by
    intro t
    induction t with
    | zero =>
      intro j o2 o3 o4 o5 o6 N hj hN hE k
      have hn : N 34 5 = pn P := by rw [hN 34 (by decide) (by decide)]; exact hB.1
      repeat refine zr_s rfl rfl rfl ?_
      rw [hn]
      refine zr_ige rfl (by omega) (by omega) (fun h => ?_) (fun h => by omega)
      exact k N hN (fun i hi => hE i (by omega)) _
    | succ t ih =>
      intro j o2 o3 o4 o5 o6 N hj hN hE k
      have hn : N 34 5 = pn P := by rw [hN 34 (by decide) (by decide)]; exact hB.1
      repeat refine zr_s rfl rfl rfl ?_
      rw [hn]
      refine zr_ige rfl (by omega) (by omega) (fun h => by omega) (fun h => ?_)
      repeat refine zr_s rfl rfl rfl ?_
      refine zr_ast (j) rfl rfl rfl (by omega) (by decide) ?_
      repeat refine zr_s rfl rfl rfl ?_
      refine zr_b rfl rfl ?_
      refine ih (j + 1) _ _ _ _ _ _ (by omega) (fun a h1 h2 => by rw [zup_row h1]; exact hN a h1 h2) (fun i hi => ?_) k
      by_cases hij : i = j
      · rw [hij, zup_at]
      · rw [zup_off hij]
        exact hE i (by omega)
  have main : ∀ (fuel k : Nat) (cy rm : Int) (o5 o6 : Option zV) (N : zM), ((pn P : Int) - k) * 3000 + (2000 - cy) ≤ fuel → k ≤ pn P → (∀ a, a ≠ 44 → a ≠ 45 → N a = M a) → (∀ i, i < pn P → N 44 i = zlm ((zls P W k).1 i)) → (∀ q, q < k → N 45 q = (zls P W k).2.1 q) → zLi P W k cy rm → zr (zSh L) 2 tX8_makeList 43 [some (zvr 34), some (zvi k), some (zvi cy), some (zvi rm), some (zvi 1), o5, o6] [] N (fun v M1 => v = none ∧ (∀ a, a ≠ 44 → a ≠ 45 → M1 a = M a) ∧ (∀ i, i < pn P → M1 44 i = (zls P W (pn P)).1 i) ∧ ∀ k, k < pn P → M1 45 k = (zls P W (pn P)).2.1 k) := by
    intro fuel
    induction fuel with
    | zero =>
      intro k cy rm o5 o6 N hfu hk hN hE hO hL
      exfalso
      obtain ⟨l1, l2, l3, l4, l5, l6⟩ := zls_ok hw W k
      have hfI := zfst_I hw (f := (zls P W k).1) l1 (fun i hi => by have := l5 i hi; omega) (pn P) (Nat.le_refl _)
      have hcc : zlcc P W (zls P W k) ≤ 13 * k + 13 := by
        unfold zlcc
        split <;> omega
      rcases hL with ⟨h1, h2⟩ | ⟨h1, h2, h3, h4⟩ <;> omega
    | succ fuel ih =>
      intro k cy rm o5 o6 N hfu hk hN hE hO hL
      obtain ⟨l1, l2, l3, l4, l5, l6⟩ := zls_ok hw W k
      have hn : N 34 5 = pn P := by rw [hN 34 (by decide) (by decide)]; exact hB.1
      have hun : N 34 7 = pu P := by rw [hN 34 (by decide) (by decide)]; exact hB.2.1
      have hBN : zBm N P := zBm_of hB (fun a h1 h2 => hN a (by omega) (by omega))
      have hDN : zDm N P := fun a b ha hb => by rw [hN 41 (by decide) (by decide)]; exact hD a b ha hb
      have hWN : ∀ i, i < pn P → N 42 i = W i ∧ zI (W i) := fun i hi => by rw [hN 42 (by decide) (by decide)]; exact hW i hi
      have hfI := zfst_I hw (f := (zls P W k).1) l1 (fun i hi => by have := l5 i hi; omega) (pn P) (Nat.le_refl _)
      have hcc : zlcc P W (zls P W k) ≤ 13 * k + 13 := by
        unfold zlcc
        split <;> omega
      have hcy : 0 ≤ cy ∧ cy ≤ 13 * k + 13 := by
        rcases hL with ⟨h1, h2⟩ | ⟨h1, h2, h3, h4⟩ <;> omega
      have hrm : 0 ≤ rm ∧ rm ≤ 8 := by
        rcases hL with ⟨h1, h2⟩ | ⟨h1, h2, h3, h4⟩ <;> omega
      -- the next cycle
      have turn : ∀ (o4 o5 o6 : Option zV), (k < pn P → zLi P W k (cy + 1) (pu P)) → zr (zSh L) 2 tX8_makeList 161 [some (zvr 34), some (zvi k), some (zvi cy), some (zvi rm), o4, o5, o6] [] N (fun v M1 => v = none ∧ (∀ a, a ≠ 44 → a ≠ 45 → M1 a = M a) ∧ (∀ i, i < pn P → M1 44 i = (zls P W (pn P)).1 i) ∧ ∀ k, k < pn P → M1 45 k = (zls P W (pn P)).2.1 k) := by
        intro o4 o5 o6 hL1
        repeat refine zr_s rfl rfl rfl ?_
        refine zr_b rfl rfl ?_
        repeat refine zr_s rfl rfl rfl ?_
        rw [hn]
        refine zr_ige rfl (by omega) (by omega) (fun h => ?_) (fun h => ?_)
        · have hkn : k = pn P := by omega
          subst hkn
          refine zr_retv rfl ⟨rfl, hN, fun i hi => ?_, hO⟩
          rw [hE i hi, zlm, if_neg ((zod_P hw W).2.2.2 i hi)]
        · repeat refine zr_t 43 rfl rfl rfl rfl ?_
          rw [hun]
          exact ih k (cy + 1) (pu P) _ _ N (by omega) hk hN hE hO (hL1 (by omega))
      have hb1 : zlb1 P W (zls P W k) = if (zls P W k).2.2.2 < pu P then zbst P W (zls P W k).1 (zls P W k).2.2.1 (pn P) else -3 := rfl
      have hccd : zlcc P W (zls P W k) = if zlb1 P W (zls P W k) = -3 then max (zfst P (zls P W k).1 (pn P)) ((zls P W k).2.2.1 + 1) else (zls P W k).2.2.1 := rfl
      have hb2 : zlb2 P W (zls P W k) = if zlb1 P W (zls P W k) = -3 then zbst P W (zls P W k).1 (zlcc P W (zls P W k)) (pn P) else zlb1 P W (zls P W k) := rfl
      have hqq : zlqq P W (zls P W k) = if zlb1 P W (zls P W k) = -3 then 0 else (zls P W k).2.2.2 := rfl
      repeat refine zr_s rfl rfl rfl ?_
      refine zr_zle rfl (by omega) (fun h => ?_) (fun h => ?_)
      · refine turn _ _ _ (fun hkn => ?_)
        rcases hL with ⟨h1, h2⟩ | ⟨h1, h2, h3, h4⟩
        · have h5 : zlb1 P W (zls P W k) = -3 := by rw [hb1, if_neg (by omega)]
          exact Or.inr ⟨by omega, by rw [hccd, if_pos h5]; omega, rfl, h5⟩
        · omega
      · repeat refine zr_s rfl rfl rfl ?_
        refine zr_zeq rfl (by decide) (fun h => by cases h) (fun _ => ?_)
        refine sp_l_best (f := (zls P W k).1) hBN hw hDN ⟨hcy.1, by omega⟩ (fun i hi => ⟨hE i hi, by have := l5 i hi; omega⟩) hWN (fun p6 => ?_)
        rcases zbst_P (P := P) (W := W) (f := (zls P W k).1) (c := cy) (pn P) with ⟨hb, hnone⟩ | ⟨b, hb, hbn, hbf, hbp, -⟩
        · -- none can begin
          rw [hb, zlm, if_pos rfl]
          repeat refine zr_s rfl rfl rfl ?_
          refine zr_zlt rfl (by decide) (fun _ => ?_) (fun h => absurd h (by decide))
          repeat refine zr_s rfl rfl rfl ?_
          refine zr_zeq rfl (by decide) (fun _ => ?_) (fun h => absurd rfl h)
          refine zr_b rfl rfl ?_
          repeat refine zr_s rfl rfl rfl ?_
          have hL1 : k < pn P → zLi P W k (cy + 1) (pu P) := fun hkn => by
            rcases hL with ⟨h1, h2⟩ | ⟨h1, h2, h3, h4⟩
            · have h5 : zlb1 P W (zls P W k) = -3 := by rw [hb1, if_pos (by omega), ← h1]; exact hb
              exact Or.inr ⟨by omega, by rw [hccd, if_pos h5]; omega, rfl, h5⟩
            · refine Or.inr ⟨by omega, ?_, rfl, h4⟩
              have hgo := zls_go hw W hkn
              rw [hb2, if_pos h4] at hgo
              by_cases hcq : cy = zlcc P W (zls P W k)
              · rw [← hcq] at hgo
                exact absurd hb hgo
              · omega
          refine zr_zle rfl (by omega) (fun h => by omega) (fun _ => ?_)
          repeat refine zr_s rfl rfl rfl ?_
          refine zr_zeq rfl (by decide) (fun _ => ?_) (fun h => absurd rfl h)
          exact turn _ _ _ hL1
        · -- b begins
          rw [hb, zlm, if_neg (by omega)]
          obtain ⟨f1, f2⟩ := zfree_iff.mp hbf
          have hkn : k < pn P := by
            apply Decidable.byContradiction
            intro z
            have : k = pn P := by omega
            subst this
            exact (zod_P hw W).2.2.2 b hbn f1
          have hst : zlb2 P W (zls P W k) = b ∧ zlcc P W (zls P W k) = cy ∧ rm = pu P - zlqq P W (zls P W k) := by
            rcases hL with ⟨h1, h2⟩ | ⟨h1, h2, h3, h4⟩
            · have h5 : zlb1 P W (zls P W k) = b := by rw [hb1, if_pos (by omega), ← h1]; exact hb
              rw [hb2, hccd, hqq, if_neg (by omega), if_neg (by omega), if_neg (by omega)]
              exact ⟨h5, h1.symm, h2⟩
            · have hcq : cy = zlcc P W (zls P W k) := by
                have h5 := hccd
                rw [if_pos h4] at h5
                rcases zfst_P (P := P) (f := (zls P W k).1) (pn P) with ⟨z1, z2⟩ | ⟨z1, z2, z3⟩
                · have := z2 b hbn
                  rw [hbf] at this
                  cases this
                · have := z3 b hbn hbf
                  omega
              rw [hb2, hqq, if_pos h4, if_pos h4, ← hcq]
              exact ⟨hb, rfl, by omega⟩
          have hnx : zls P W (k + 1) = zlnext P W k (zls P W k) := rfl
          rw [zlnext_eq, hst.1, hst.2.1, if_neg (by omega), Int.toNat_natCast] at hnx
          repeat refine zr_s rfl rfl rfl ?_
          refine zr_zlt rfl (by omega) (fun h => by omega) (fun _ => ?_)
          repeat refine zr_s rfl rfl rfl ?_
          refine zr_zeq rfl (by decide) (fun h => by cases h) (fun _ => ?_)
          repeat refine zr_s rfl rfl rfl ?_
          refine zr_ast (b) rfl rfl rfl (by omega) (by decide) ?_
          repeat refine zr_s rfl rfl rfl ?_
          refine zr_ast (k) rfl rfl rfl (by omega) (by decide) ?_
          repeat refine zr_s rfl rfl rfl ?_
          refine zr_b rfl rfl ?_
          have e1 : ((k : Int) + 1) = ((k + 1 : Nat) : Int) := by omega
          rw [e1]
          refine ih (k + 1) cy (rm + -1) _ _ _ (by omega) (by omega) (fun a h1 h2 => by rw [zup_row h2, zup_row h1]; exact hN a h1 h2) (fun i hi => ?_) (fun q hq => ?_) ?_
          · rw [hnx, zup_row (by decide)]
            show _ = zlm (zfu (zls P W k).1 b cy i)
            by_cases hib : i = b
            · rw [hib, zup_at, zfu_at, zlm, if_neg (by omega)]
            · rw [zup_off hib, zfu_off hib]
              exact hE i hi
          · rw [hnx]
            show _ = zfu (zls P W k).2.1 k b q
            by_cases hqk : q = k
            · rw [hqk, zup_at, zfu_at]
            · rw [zup_off hqk, zfu_off hqk, zup_row (by decide)]
              exact hO q (by omega)
          · rw [zLi, hnx]
            exact Or.inl ⟨rfl, by show rm + -1 = _ - (_ + 1); omega⟩
  refine zf_of rfl (Nat.le_of_ble_eq_true rfl) ?_
  repeat refine zr_t 2 rfl rfl rfl rfl ?_
  refine hfill (pn P) 0 _ _ _ _ _ M (by omega) (fun _ _ _ => rfl) (fun i hi => by omega) (fun N hN hE o1 => ?_)
  have hn : N 34 5 = pn P := by rw [hN 34 (by decide) (by decide)]; exact hB.1
  have hun : N 34 7 = pu P := by rw [hN 34 (by decide) (by decide)]; exact hB.2.1
  repeat refine zr_s rfl rfl rfl ?_
  rw [hn]
  refine zr_ige rfl (by decide) (by omega) (fun h => ?_) (fun h => ?_)
  · exact zr_retv rfl ⟨rfl, hN, fun i hi => by omega, fun i hi => by omega⟩
  · repeat refine zr_t 43 rfl rfl rfl rfl ?_
    rw [hun]
    refine main 200000 0 0 (pu P) _ _ N (by omega) (by omega) hN (fun i hi => by rw [hE i hi]; rfl) (fun q hq => by omega) (Or.inl ⟨rfl, ?_⟩)
    show (pu P : Int) = pu P - 0
    omega
end ZX
