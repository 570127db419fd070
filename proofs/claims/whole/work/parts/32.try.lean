/-! THE SEARCH: tryAll, leastLength -/
theorem zlen_nn (P : zP) (f : Nat → Int) : ∀ i, 0 ≤ zlen P f i
  | 0 => Int.le_refl _
  | i + 1 => by
    have := zlen_nn P f i
    show 0 ≤ max _ _
    omega
theorem zfold_I {g : Int → Nat → Int} (h : ∀ b i, 0 ≤ b → 0 ≤ g b i ∧ g b i ≤ b) : ∀ (l : List Nat) (b : Int), 0 ≤ b → 0 ≤ l.foldl g b ∧ l.foldl g b ≤ b
  | [], b, hb => ⟨hb, Int.le_refl _⟩
  | i :: l, b, hb => by
    have h1 := h b i hb
    have h2 := zfold_I h l (g b i) h1.1
    exact ⟨h2.1, Int.le_trans h2.2 h1.2⟩
theorem zta_I (P : zP) (W : Nat → Int) : ∀ (d : Nat) (f : Nat → Int) (p : Nat) (c q b : Int), 0 ≤ b → 0 ≤ zta P W d f p c q b ∧ zta P W d f p c q b ≤ b
  | 0, f, p, c, q, b, hb => by
    have := zlen_nn P f (pn P)
    show 0 ≤ min b (zlen P f (pn P)) ∧ min b (zlen P f (pn P)) ≤ b
    omega
  | d + 1, f, p, c, q, b, hb => by
    have := zlen_nn P f (pn P)
    unfold zta
    split
    · omega
    · split
      · omega
      · refine zfold_I (fun b i hb => ?_) _ b hb
        split
        · exact zta_I P W d _ _ _ _ _ hb
        · exact ⟨hb, Int.le_refl _⟩
/-- what the loop does to the best with instruction i -/
def ztg (P : zP) (W : Nat → Int) (d : Nat) (f : Nat → Int) (p : Nat) (c q : Int) (b : Int) (i : Nat) : Int := if f i = -3 ∧ zwt P f i i = 0 then zta P W d (zfu f i (max (if q < pu P then c else c + 1) (zpf P f i))) (p + 1) (max (if q < pu P then c else c + 1) (zpf P f i)) (if max (if q < pu P then c else c + 1) (zpf P f i) = c then q + 1 else 1) b else b
theorem zta_s (P : zP) (W : Nat → Int) (d : Nat) (f : Nat → Int) (p : Nat) (c q b : Int) : zta P W (d + 1) f p c q b = if pn P ≤ p then min b (zlen P f (pn P)) else if zhl P f W c q b (pn P) = true then b else (List.range (pn P)).foldl (ztg P W d f p c q) b := rfl
theorem ztg_I (P : zP) (W : Nat → Int) (d : Nat) (f : Nat → Int) (p : Nat) (c q : Int) (b : Int) (i : Nat) (hb : 0 ≤ b) : 0 ≤ ztg P W d f p c q b i ∧ ztg P W d f p c q b i ≤ b := by
  unfold ztg
  split
  · exact zta_I P W d _ _ _ _ _ hb
  · exact ⟨hb, Int.le_refl _⟩
theorem zrestore {M : zM} {i : Nat} {b a b2 : Int} (h : M 23 i = -3) : zup (zup (zup (zup M 22 3 b) 23 i a) 22 3 b2) 23 i (-3) = zup M 22 3 b2 := by
  funext x y
  unfold zup
  by_cases h1 : x = 23 ∧ y = i
  · rw [if_pos h1, if_neg (by omega), h1.1, h1.2, h]
  · rw [if_neg h1]
    by_cases h2 : x = 22 ∧ y = 3
    · rw [if_pos h2, if_pos h2]
    · rw [if_neg h2, if_neg h1, if_neg h2, if_neg h2]
section ZX
variable {L : Nat} {P : zP}
theorem sp_tryAll (hw : zWf P) : ∀ (d p : Nat) (M : zM) (f : Nat → Int) (c q b : Int), p + d = 7 → zBk M P → zDl M P (pn P) → (∀ i, i < pn P → M 23 i = f i ∧ -3 ≤ f i ∧ f i ≤ c) → (∀ i, i < pn P → 0 ≤ M 11 i ∧ M 11 i ≤ 1000) → 0 ≤ c → c ≤ 13 * p → 0 ≤ q → q ≤ pu P → M 22 3 = b → 0 ≤ b → b ≤ 1000000 → zf (zSh L) (4 + d) kX6_tryAll [zvr 22, zvi p, zvi c, zvi q] M (fun v M1 => v = none ∧ M1 = zup M 22 3 (zta P (M 11) d f p c q b))
  | d, p, M, f, c, q, b, hpd, hB, hD, hf, hW, hc0, hc1, hq0, hq1, hb, hb0, hb1 => by
    have h60 := hw.1
    have hn := hB.1
    have hu := hB.2.1
    have hu1 := hw.2.1
    have hu8 := hw.2.2.1
    have el : zlen P (M 23) (pn P) = zlen P f (pn P) := by
      have : ∀ m, m ≤ pn P → zlen P (M 23) m = zlen P f m := by
        intro m
        induction m with
        | zero => intro _; rfl
        | succ m ihm =>
          intro hm
          show max (zlen P (M 23) m) (M 23 m + _) = max (zlen P f m) (f m + _)
          rw [ihm (by omega), (hf m (by omega)).1]
      exact this _ (Nat.le_refl _)
    have hlI := zlen_I hw (f := M 23) (fun i hi => by have := hf i hi; omega) (pn P) (Nat.le_refl _)
    have leaf : zta P (M 11) d f p c q b = min b (zlen P f (pn P)) → zr (zSh L) (3 + d) tX6_tryAll 17 [some (zvr 22), some (zvi p), some (zvi c), some (zvi q), none, none, none] [] M (fun v M1 => v = none ∧ M1 = zup M 22 3 (zta P (M 11) d f p c q b)) := by
      intro hz
      repeat refine zr_s rfl rfl rfl ?_
      refine zr_cr rfl rfl rfl (zf_mono (by omega) (sp_lengthOf hB hw rfl (fun i hi => by have := hf i hi; omega))) ?_
      rw [hb]
      refine zr_cr rfl rfl rfl (zf_mono (by omega) (sp_min (by omega) (by omega))) ?_
      repeat refine zr_s rfl rfl rfl ?_
      exact zr_retv rfl (⟨rfl, by rw [hz, el]⟩)
    rw [show 4 + d = 3 + d + 1 by omega]
    refine zf_of rfl (Nat.le_of_ble_eq_true rfl) ?_
    repeat refine zr_s rfl rfl rfl ?_
    refine zr_ige rfl (by omega) (by omega) (fun h => ?_) (fun h => ?_)
    · refine leaf ?_
      rcases d with _ | d
      · rfl
      · rw [zta_s, if_pos (by omega)]
    · repeat refine zr_s rfl rfl rfl ?_
      refine zr_ilt rfl (by omega) (by decide) (fun h2 => ?_) (fun h2 => ?_)
      rotate_left
      · refine leaf ?_
        rw [show d = 0 by omega]
        rfl
      · obtain ⟨d, rfl⟩ : ∃ e, d = e + 1 := ⟨d - 1, by omega⟩
        rw [zta_s, if_neg (by omega)]
        repeat refine zr_s rfl rfl rfl ?_
        refine zr_cr rfl rfl rfl (zf_mono (by omega) (sp_isHopeless hB hw hD (fun i hi => ⟨(hf i hi).1, (hf i hi).2.1, by have := hf i hi; omega⟩) hW ⟨hc0, by omega⟩ ⟨hq0, by omega⟩ ⟨hb, by omega⟩)) ?_
        cases hh : zhl P f (M 11) c q b (pn P) with
        | true =>
          refine zr_zeq rfl (by decide) (fun h => by cases h) (fun _ => ?_)
          repeat refine zr_s rfl rfl rfl ?_
          refine zr_retv rfl ⟨rfl, ?_⟩
          rw [if_pos rfl]
          funext x y
          unfold zup
          split
          · rename_i h5
            rw [h5.1, h5.2, hb]
          · rfl
        | false =>
          refine zr_zeq rfl (by decide) (fun _ => ?_) (fun h => absurd rfl h)
          rw [if_neg (by simp)]
          have main : ∀ fr : Int, fr = (if q < pu P then c else c + 1) → zr (zSh L) (3 + (d + 1)) tX6_tryAll 70 [some (zvr 22), some (zvi p), some (zvi c), some (zvi q), some (zvi fr), none, none] [] M (fun v M1 => v = none ∧ M1 = zup M 22 3 ((List.range (pn P)).foldl (ztg P (M 11) d f p c q) b)) := by
            intro fr hfr
            have hfrI : c ≤ fr ∧ fr ≤ c + 1 := by
              rw [hfr]
              split <;> omega
            repeat refine zr_t 73 rfl rfl rfl rfl ?_
            have loop : ∀ (k i : Nat) (o6 : Option zV) (bi : Int), i + k = pn P → bi = (List.range i).foldl (ztg P (M 11) d f p c q) b → zr (zSh L) (3 + (d + 1)) tX6_tryAll 73 [some (zvr 22), some (zvi p), some (zvi c), some (zvi q), some (zvi fr), some (zvi i), o6] [] (zup M 22 3 bi) (fun v M1 => v = none ∧ M1 = zup M 22 3 ((List.range (pn P)).foldl (ztg P (M 11) d f p c q) b)) := by
              intro k
              induction k with
              | zero =>
                intro i o6 bi hi hbi
                have hn1 : zup M 22 3 bi 2 6 = pn P := by rw [zup_row (by decide)]; exact hn
                repeat refine zr_s rfl rfl rfl ?_
                refine zr_ige rfl (by omega) (by omega) (fun h => ?_) (fun h => by omega)
                repeat refine zr_s rfl rfl rfl ?_
                exact zr_retv rfl (⟨rfl, by rw [hbi, show i = pn P by omega]⟩)
              | succ k ih =>
                intro i o6 bi hi hbi
                have hn1 : zup M 22 3 bi 2 6 = pn P := by rw [zup_row (by decide)]; exact hn
                have hBN : zBk (zup M 22 3 bi) P := zBk_of hB (fun a h1 h2 => zup_row (by omega))
                have hDN : zDl (zup M 22 3 bi) P (pn P) := fun x hx a ha => by rw [zup_row (by decide)]; exact hD x hx a ha
                have hfN : ∀ a, a < pn P → zup M 22 3 bi 23 a = f a ∧ -3 ≤ f a ∧ f a ≤ 100000 := fun a ha => by
                  rw [zup_row (by decide)]
                  exact ⟨(hf a ha).1, (hf a ha).2.1, by have := hf a ha; omega⟩
                have hbI := zfold_I (fun b i hb => ztg_I P (M 11) d f p c q b i hb) (List.range i) b hb0
                rw [← hbi] at hbI
                obtain ⟨e1, e2, e3⟩ := hf i (by omega)
                have hpf := zpf_I hw (f := f) hc0 (j := i) (by omega) (fun a ha => (hf a ha).2.2)
                have hnx : (List.range (i + 1)).foldl (ztg P (M 11) d f p c q) b = ztg P (M 11) d f p c q bi i := by
                  rw [List.range_succ, List.foldl_append, ← hbi]
                  rfl
                have skip : ¬ (f i = -3 ∧ zwt P f i i = 0) → zr (zSh L) (3 + (d + 1)) tX6_tryAll 166 [some (zvr 22), some (zvi p), some (zvi c), some (zvi q), some (zvi fr), some (zvi i), o6] [] (zup M 22 3 bi) (fun v M1 => v = none ∧ M1 = zup M 22 3 ((List.range (pn P)).foldl (ztg P (M 11) d f p c q) b)) := by
                  intro hne
                  repeat refine zr_s rfl rfl rfl ?_
                  refine zr_b rfl rfl ?_
                  refine ih (i + 1) _ bi (by omega) ?_
                  rw [hnx]
                  unfold ztg
                  rw [if_neg hne]
                repeat refine zr_s rfl rfl rfl ?_
                refine zr_ige rfl (by omega) (by omega) (fun h => by omega) (fun h => ?_)
                repeat refine zr_s rfl rfl rfl ?_
                refine zr_ald (i) rfl rfl rfl (by omega) (by decide) ?_
                rw [(hfN i (by omega)).1]
                repeat refine zr_s rfl rfl rfl ?_
                refine zr_ine rfl (by omega) (by decide) (fun h3 => ?_) (fun h3 => ?_)
                · exact skip (fun z => h3 z.1)
                · repeat refine zr_s rfl rfl rfl ?_
                  refine zr_cr rfl rfl rfl (zf_mono (by omega) (sp_isFreeS hw hDN hfN (j := i) (by omega))) ?_
                  by_cases h4 : zwt P f i i = 0
                  rotate_left
                  · rw [zb_f (by simp [h4])]
                    refine zr_zeq rfl (by decide) (fun _ => ?_) (fun h => absurd rfl h)
                    exact skip (fun z => h4 z.2)
                  · rw [zb_t (by simp [h4])]
                    refine zr_zeq rfl (by decide) (fun h => by cases h) (fun _ => ?_)
                    have elc : zlc (fun a => zdc P a i) (zup M 22 3 bi 23) i = zpf P f i := zlc_congr i (fun a ha _ => (hfN a (by omega)).1)
                    repeat refine zr_s rfl rfl rfl ?_
                    refine zr_cr rfl rfl rfl (zf_mono (by omega) (sp_leastCycle hw hDN (j := i) (by omega) (by omega) rfl (fun a ha => by have := hfN a (by omega); omega) (fun a ha => by have := hfN a (by omega); omega))) ?_
                    rw [elc]
                    refine zr_cr rfl rfl rfl (zf_mono (by omega) (sp_max (by omega) (by omega))) ?_
                    repeat refine zr_s rfl rfl rfl ?_
                    refine zr_ast (i) rfl rfl rfl (by omega) (by decide) ?_
                    have ha1 : max fr (zpf P f i) = max (if q < pu P then c else c + 1) (zpf P f i) := by rw [hfr]
                    have hqq : max fr (zpf P f i) = c → q < pu P := by
                      intro hz
                      by_cases hlt : q < pu P
                      · exact hlt
                      · rw [if_neg hlt] at hfr
                        omega
                    generalize hA : max fr (zpf P f i) = A at ha1 hqq
                    have hAI : c ≤ A ∧ A ≤ c + 13 := by omega
                    have hgi : ztg P (M 11) d f p c q bi i = zta P (M 11) d (zfu f i A) (p + 1) A (if A = c then q + 1 else 1) bi := by
                      unfold ztg
                      rw [if_pos ⟨h3, h4⟩, ← ha1]
                    have go : ∀ q2 : Int, q2 = (if A = c then q + 1 else 1) → zr (zSh L) (3 + (d + 1)) tX6_tryAll 154 [some (zvr 22), some (zvi p), some (zvi c), some (zvi q), some (zvi fr), some (zvi i), some (zvi A)] [zvi q2, zvi A, zvi ((p + 1 : Nat) : Int), zvr 22] (zup (zup M 22 3 bi) 23 i A) (fun v M1 => v = none ∧ M1 = zup M 22 3 ((List.range (pn P)).foldl (ztg P (M 11) d f p c q) b)) := by
                      intro q2 hq2
                      have hq2I : 0 ≤ q2 ∧ q2 ≤ pu P := by
                        rw [hq2]
                        split
                        · rename_i h9
                          have := hqq h9
                          omega
                        · omega
                      have h11 : zup (zup M 22 3 bi) 23 i A 11 = M 11 := by rw [zup_row (by decide), zup_row (by decide)]
                      have hr := sp_tryAll hw d (p + 1) (zup (zup M 22 3 bi) 23 i A) (zfu f i A) A q2 bi (by omega) (zBk_of hBN (fun a h1 h2 => zup_row (by omega))) (fun x hx a ha => by rw [zup_row (by decide)]; exact hDN x hx a ha) (fun a ha => by
                          by_cases hai : a = i
                          · subst hai
                            rw [zup_at, zfu_at]
                            exact ⟨rfl, by omega, Int.le_refl _⟩
                          · rw [zup_off hai, zfu_off hai]
                            exact ⟨(hfN a ha).1, (hfN a ha).2.1, by have := hf a ha; omega⟩) (by rw [h11]; exact hW) (by omega) (by push_cast; omega) hq2I.1 hq2I.2 (by rw [zup_row (by decide)]; exact zup_at) hbI.1 (by omega)
                      rw [h11] at hr
                      refine zr_c rfl rfl rfl (zf_mono (by omega) hr) (fun v M1 hv => ?_)
                      obtain ⟨rfl, rfl⟩ := hv
                      repeat refine zr_s rfl rfl rfl ?_
                      refine zr_ast (i) rfl rfl rfl (by omega) (by decide) ?_
                      rw [zrestore (e1.trans h3)]
                      repeat refine zr_s rfl rfl rfl ?_
                      refine zr_b rfl rfl ?_
                      refine ih (i + 1) _ _ (by omega) ?_
                      rw [hnx, hgi, hq2]
                    repeat refine zr_s rfl rfl rfl ?_
                    refine zr_ine rfl (by omega) (by omega) (fun h5 => ?_) (fun h5 => ?_)
                    · repeat refine zr_t 154 rfl rfl rfl rfl ?_
                      exact go 1 (by rw [if_neg h5])
                    · repeat refine zr_t 154 rfl rfl rfl rfl ?_
                      exact go (q + 1) (by rw [if_pos h5])
            have h9 := loop (pn P) 0 none b (by omega) rfl
            have e9 : zup M 22 3 b = M := by
              funext x y
              unfold zup
              split
              · rename_i h5
                rw [h5.1, h5.2, hb]
              · rfl
            rw [e9] at h9
            exact h9
          repeat refine zr_s rfl rfl rfl ?_
          refine zr_ige rfl (by omega) (by omega) (fun h3 => ?_) (fun h3 => ?_)
          · repeat refine zr_t 70 rfl rfl rfl rfl ?_
            exact main (c + 1) (by rw [if_neg (by omega)])
          · repeat refine zr_t 70 rfl rfl rfl rfl ?_
            exact main c (by rw [if_pos (by omega)])
  termination_by d => d
theorem sp_leastLength {M : zM} {b : Int} (hB : zBk M P) (hw : zWf P) (h7 : pn P ≤ 7) (hD : zDl M P (pn P)) (hW : ∀ i, i < pn P → 0 ≤ M 11 i ∧ M 11 i ≤ 1000) (hb : 0 ≤ b ∧ b ≤ 1000000) : zf (zSh L) 12 kX6_leastLength [zvr 22, zvi b] M (fun v M1 => v = some (.inl (zta P (M 11) 7 (fun _ => -3) 0 0 0 b)) ∧ (∀ a, a ≠ 22 → a ≠ 23 → M1 a = M a) ∧ (∀ q, q ≠ 3 → M1 22 q = M 22 q)) := by
  have h60 := hw.1
  refine zf_of rfl (Nat.le_of_ble_eq_true rfl) ?_
  repeat refine zr_s rfl rfl rfl ?_
  refine zr_c rfl rfl rfl (zf_mono (Nat.le_of_ble_eq_true rfl) (sp_fill (j := 22) (n := 60) rfl (by decide))) (fun v M1 hv => ?_)
  obtain ⟨rfl, rfl⟩ := hv
  have hrow : ∀ a, a ≠ 23 → zfl (zup M 22 3 b) 23 60 (-3) a = zup M 22 3 b a := by
    intro a ha
    funext q
    unfold zfl
    rw [if_neg (fun z => ha z.1)]
  have h11 : zfl (zup M 22 3 b) 23 60 (-3) 11 = M 11 := by rw [hrow 11 (by decide), zup_row (by decide)]
  have hr := sp_tryAll (L := L) hw 7 0 (zfl (zup M 22 3 b) 23 60 (-3)) (fun _ => -3) 0 0 b rfl (zBk_of hB (fun a h1 h2 => by rw [hrow a (by omega), zup_row (by omega)])) (fun x hx a ha => by rw [hrow 10 (by decide), zup_row (by decide)]; exact hD x hx a ha) (fun i hi => by
    refine ⟨?_, by decide, by decide⟩
    unfold zfl
    rw [if_pos ⟨rfl, by omega⟩]) (by rw [h11]; exact hW) (Int.le_refl _) (Int.le_refl _) (Int.le_refl _) (by omega) (by rw [hrow 22 (by decide)]; exact zup_at) hb.1 hb.2
  rw [h11] at hr
  repeat refine zr_s rfl rfl rfl ?_
  refine zr_c rfl rfl rfl hr (fun v M1 hv => ?_)
  obtain ⟨rfl, rfl⟩ := hv
  repeat refine zr_s rfl rfl rfl ?_
  refine zr_ret rfl ⟨by rw [zup_at], fun a h1 h2 => by rw [zup_row h1, hrow a h2, zup_row h1], fun q hq => by rw [zup_off hq, hrow 22 (by decide), zup_off hq]⟩
end ZX
