/-! IN ORDER, as the class makes it -/
def zionext (P : zP) (s : (Nat → Int) × Int × Int) (i : Nat) : (Nat → Int) × Int × Int :=
  let l : Int := if s.2.2 = pu P then max (zlc (fun a => zdc P a i) s.1 i) (s.2.1 + 1) else zlc (fun a => zdc P a i) s.1 i
  if s.2.1 < l then (zfu s.1 i l, l, 1) else (zfu s.1 i s.2.1, s.2.1, s.2.2 + 1)
/-- cycles, cycle, how many in it, when k of the order have theirs -/
def zio (P : zP) (ord : Nat → Nat) : Nat → (Nat → Int) × Int × Int
  | 0 => (fun _ => -3, 0, 0)
  | k + 1 => zionext P (zio P ord k) (ord k)
/-- in the order each one stands behind all on which it depends -/
def zTop (P : zP) (ord : Nat → Nat) : Prop := ∀ k, k < pn P → ∀ a, a < ord k → zdc P a (ord k) ≠ -3 → ∃ k', k' < k ∧ ord k' = a
theorem zlc_congr {g f f2 : Nat → Int} : ∀ m, (∀ a, a < m → g a ≠ -3 → f a = f2 a) → zlc g f m = zlc g f2 m
  | 0, _ => rfl
  | m + 1, h => by
    have h1 := zlc_congr (g := g) m (fun a ha => h a (by omega))
    unfold zlc
    rw [h1]
    by_cases hd : g m ≠ -3
    · rw [h m (by omega) hd]
    · rw [if_neg (fun z => hd z.1), if_neg (fun z => hd z.1)]
theorem zionext_ok {P : zP} (hw : zWf P) {s : (Nat → Int) × Int × Int} {i k : Nat} (hi : i < pn P) (h : 0 ≤ s.2.1 ∧ s.2.1 ≤ 13 * k ∧ 0 ≤ s.2.2 ∧ s.2.2 ≤ pu P ∧ ∀ a, a < pn P → s.1 a = -3 ∨ (0 ≤ s.1 a ∧ s.1 a ≤ s.2.1)) : 0 ≤ (zionext P s i).2.1 ∧ (zionext P s i).2.1 ≤ 13 * ((k + 1 : Nat) : Int) ∧ 0 ≤ (zionext P s i).2.2 ∧ (zionext P s i).2.2 ≤ pu P ∧ ∀ a, a < pn P → (zionext P s i).1 a = -3 ∨ (0 ≤ (zionext P s i).1 a ∧ (zionext P s i).1 a ≤ (zionext P s i).2.1) := by
  obtain ⟨p1, p2, p3, p4, p5⟩ := h
  have hu := hw.2.1
  have hlI : 0 ≤ zlc (fun a => zdc P a i) s.1 i ∧ zlc (fun a => zdc P a i) s.1 i ≤ s.2.1 + 12 := zlc_I i p1 (fun a ha => ⟨(zdc_I hw (by omega) hi).1, (zdc_I hw (by omega) hi).2, by rcases p5 a (by omega) with h | h <;> omega⟩)
  have cell : ∀ (c : Int), s.2.1 ≤ c → ∀ a, a < pn P → zfu s.1 i c a = -3 ∨ (0 ≤ zfu s.1 i c a ∧ zfu s.1 i c a ≤ c) := by
    intro c hc a ha
    by_cases hai : a = i
    · rw [hai, zfu_at]
      exact Or.inr (by omega)
    · rw [zfu_off hai]
      rcases p5 a ha with h | h
      · exact Or.inl h
      · exact Or.inr (by omega)
  unfold zionext
  simp only
  by_cases hq : s.2.2 = pu P
  · rw [if_pos hq, if_pos (by omega)]
    refine ⟨?_, ?_, ?_, ?_, cell _ ?_⟩ <;> (try simp only) <;> (try push_cast) <;> omega
  · rw [if_neg hq]
    split
    · refine ⟨?_, ?_, ?_, ?_, cell _ ?_⟩ <;> (try simp only) <;> (try push_cast) <;> omega
    · refine ⟨?_, ?_, ?_, ?_, cell _ ?_⟩ <;> (try simp only) <;> (try push_cast) <;> omega
theorem zio_ok {P : zP} (hw : zWf P) {ord : Nat → Nat} (ho : ∀ k, k < pn P → ord k < pn P) : ∀ k, k ≤ pn P → 0 ≤ (zio P ord k).2.1 ∧ (zio P ord k).2.1 ≤ 13 * k ∧ 0 ≤ (zio P ord k).2.2 ∧ (zio P ord k).2.2 ≤ pu P ∧ ∀ a, a < pn P → (zio P ord k).1 a = -3 ∨ (0 ≤ (zio P ord k).1 a ∧ (zio P ord k).1 a ≤ (zio P ord k).2.1)
  | 0, _ => ⟨Int.le_refl _, Int.le_refl _, Int.le_refl _, by show (0 : Int) ≤ pu P; omega, fun a _ => Or.inl rfl⟩
  | k + 1, h => zionext_ok hw (ho k (by omega)) (zio_ok hw ho k (by omega))
section ZX
variable {L : Nat} {M : zM} {P : zP}
theorem sp_make_standing {ord : Nat → Nat} (hB : zBk M P) (hw : zWf P) (hD : zDl M P (pn P)) (hord : ∀ k, k < pn P → M 33 k = ord k ∧ ord k < pn P) (htop : zTop P ord) (hr : ∀ i, i < 60 → -3 ≤ M 19 i ∧ M 19 i ≤ 1000) : zf (zSh L) 3 kX4_make [zvr 18, zvr 33] M (fun v M1 => v = none ∧ (∀ a, a ≠ 19 → M1 a = M a) ∧ (∀ k, k < pn P → M1 19 (ord k) = (zio P ord (pn P)).1 (ord k)) ∧ ∀ i, i < 60 → -3 ≤ M1 19 i ∧ M1 19 i ≤ 1000) := by
  have h60 := hw.1
  have hn := hB.1
  have hu := hB.2.1
  have hu8 := hw.2.2.1
  refine zf_of rfl (Nat.le_of_ble_eq_true rfl) ?_
  repeat refine zr_t 7 rfl rfl rfl rfl ?_
  have loop : ∀ (k i : Nat) (o5 o6 : Option zV) (N : zM), i + k = pn P → (∀ a, a ≠ 19 → N a = M a) → (∀ q, q < i → N 19 (ord q) = (zio P ord i).1 (ord q)) → (∀ i, i < 60 → -3 ≤ N 19 i ∧ N 19 i ≤ 1000) → zr (zSh L) 2 tX4_make 7 [some (zvr 18), some (zvr 33), some (zvi (zio P ord i).2.1), some (zvi (zio P ord i).2.2), some (zvi i), o5, o6] [] N (fun v M1 => v = none ∧ (∀ a, a ≠ 19 → M1 a = M a) ∧ (∀ k, k < pn P → M1 19 (ord k) = (zio P ord (pn P)).1 (ord k)) ∧ ∀ i, i < 60 → -3 ≤ M1 19 i ∧ M1 19 i ≤ 1000) := by
    intro k
    induction k with
    | zero =>
      intro i o5 o6 N hi f1 f2 f3
      have hi2 : i = pn P := by omega
      subst hi2
      have hB1 : zBk N P := zBk_of hB (fun a h1 h2 => f1 a (by omega))
      have hn1 := hB1.1
      repeat refine zr_s rfl rfl rfl ?_
      refine zr_ige rfl (by omega) (by omega) (fun h => ?_) (fun h => by omega)
      repeat refine zr_s rfl rfl rfl ?_
      exact zr_retv rfl (⟨rfl, f1, f2, f3⟩)
    | succ k ih =>
      intro i o5 o6 N hi f1 f2 f3
      have hB1 : zBk N P := zBk_of hB (fun a h1 h2 => f1 a (by omega))
      have hn1 := hB1.1
      have hu1 := hB1.2.1
      have hD1 : zDl N P (pn P) := fun q hq a ha => by rw [f1 10 (by omega)]; exact hD q hq a ha
      obtain ⟨ho1, ho2⟩ := hord i (by omega)
      have hok := zio_ok hw (ord := ord) (fun q hq => (hord q hq).2) i (by omega)
      have elc : zlc (fun a => zdc P a (ord i)) (N 19) (ord i) = zlc (fun a => zdc P a (ord i)) (zio P ord i).1 (ord i) := by
        refine zlc_congr _ (fun a ha hd => ?_)
        obtain ⟨k', hk1, hk2⟩ := htop i (by omega) a ha hd
        rw [← hk2]
        exact f2 k' hk1
      have hnx : zio P ord (i + 1) = zionext P (zio P ord i) (ord i) := rfl
      generalize zio P ord i = s at hok elc hnx f2 ⊢
      obtain ⟨p1, p2, p3, p4, p5⟩ := hok
      have hlI : 0 ≤ zlc (fun a => zdc P a (ord i)) s.1 (ord i) ∧ zlc (fun a => zdc P a (ord i)) s.1 (ord i) ≤ s.2.1 + 12 := zlc_I (ord i) p1 (fun a ha => ⟨(zdc_I hw (by omega) ho2).1, (zdc_I hw (by omega) ho2).2, by rcases p5 a (by omega) with h | h <;> omega⟩)
      repeat refine zr_s rfl rfl rfl ?_
      refine zr_ige rfl (by omega) (by omega) (fun h => by omega) (fun h => ?_)
      repeat refine zr_s rfl rfl rfl ?_
      refine zr_ald (i) rfl rfl rfl (by omega) (by decide) ?_
      rw [f1 33 (by decide), ho1]
      repeat refine zr_s rfl rfl rfl ?_
      refine zr_cr rfl rfl rfl (zf_mono (Nat.le_of_ble_eq_true rfl) (sp_leastCycle hw hD1 ho2 ho2 rfl (fun a ha => by have := f3 a (by omega); omega) (fun a ha => by have := f3 a (by omega); omega))) ?_
      rw [elc]
      have fin : ∀ (c q l : Int), 0 ≤ c → c ≤ 1000 → 0 ≤ q → q ≤ 8 → zio P ord (i + 1) = (zfu s.1 (ord i) c, c, q + 1) → zr (zSh L) 2 tX4_make 72 [some (zvr 18), some (zvr 33), some (zvi c), some (zvi q), some (zvi i), some (zvi (ord i)), some (zvi l)] [] N (fun v M1 => v = none ∧ (∀ a, a ≠ 19 → M1 a = M a) ∧ (∀ k, k < pn P → M1 19 (ord k) = (zio P ord (pn P)).1 (ord k)) ∧ ∀ i, i < 60 → -3 ≤ M1 19 i ∧ M1 19 i ≤ 1000) := by
        intro c q l g1 g2 g3 g4 g5
        repeat refine zr_s rfl rfl rfl ?_
        refine zr_ast (ord i) rfl rfl rfl (by omega) (by decide) ?_
        repeat refine zr_s rfl rfl rfl ?_
        refine zr_b rfl rfl ?_
        have h7 := ih (i + 1) (some (zvi (ord i))) (some (zvi l)) (zup N 19 (ord i) c) (by omega) (fun a ha => by rw [zup_row ha]; exact f1 a ha)
        rw [g5] at h7
        refine h7 (fun q hq => ?_) (fun a ha => ?_)
        · show zup N 19 (ord i) c 19 (ord q) = zfu s.1 (ord i) c (ord q)
          by_cases hqi : ord q = ord i
          · rw [hqi, zup_at, zfu_at]
          · rw [zup_off hqi, zfu_off hqi]
            refine f2 q ?_
            have : q ≠ i := fun z => hqi (by rw [z])
            omega
        · by_cases hqi : a = ord i
          · rw [hqi, zup_at]
            omega
          · rw [zup_off hqi]
            exact f3 a ha
      have mid : ∀ l : Int, l = (if s.2.2 = pu P then max (zlc (fun a => zdc P a (ord i)) s.1 (ord i)) (s.2.1 + 1) else zlc (fun a => zdc P a (ord i)) s.1 (ord i)) → zr (zSh L) 2 tX4_make 61 [some (zvr 18), some (zvr 33), some (zvi s.2.1), some (zvi s.2.2), some (zvi i), some (zvi (ord i)), some (zvi l)] [] N (fun v M1 => v = none ∧ (∀ a, a ≠ 19 → M1 a = M a) ∧ (∀ k, k < pn P → M1 19 (ord k) = (zio P ord (pn P)).1 (ord k)) ∧ ∀ i, i < 60 → -3 ≤ M1 19 i ∧ M1 19 i ≤ 1000) := by
        intro l hl
        have hlb : 0 ≤ l ∧ l ≤ 1000 := by
          rw [hl]
          split <;> omega
        repeat refine zr_s rfl rfl rfl ?_
        refine zr_ile rfl (by omega) (by omega) (fun h2 => ?_) (fun h2 => ?_)
        · refine fin s.2.1 s.2.2 l (by omega) (by omega) (by omega) (by omega) ?_
          rw [hnx]
          unfold zionext
          simp only [← hl]
          rw [if_neg (by omega)]
        · repeat refine zr_t 72 rfl rfl rfl rfl ?_
          refine fin l 0 l (by omega) (by omega) (by omega) (by omega) ?_
          rw [hnx]
          unfold zionext
          simp only [← hl]
          rw [if_pos (by omega)]
          rfl
      repeat refine zr_s rfl rfl rfl ?_
      refine zr_ine rfl (by omega) (by omega) (fun h2 => ?_) (fun h2 => ?_)
      · exact mid _ (by rw [if_neg (by omega)])
      · repeat refine zr_s rfl rfl rfl ?_
        refine zr_cr rfl rfl rfl (zf_mono (Nat.le_of_ble_eq_true rfl) (sp_max (by omega) (by omega))) ?_
        repeat refine zr_t 61 rfl rfl rfl rfl ?_
        exact mid _ (by rw [if_pos (by omega)])
  exact loop (pn P) 0 _ _ M (by omega) (fun _ _ => rfl) (fun q hq => by omega) hr
theorem sp_make_relisted {ord : Nat → Nat} (hB : zBk M P) (hw : zWf P) (hD : zDl M P (pn P)) (hord : ∀ k, k < pn P → M 15 k = ord k ∧ ord k < pn P) (htop : zTop P ord) (hr : ∀ i, i < 60 → -3 ≤ M 21 i ∧ M 21 i ≤ 1000) : zf (zSh L) 3 kX4_make [zvr 20, zvr 15] M (fun v M1 => v = none ∧ (∀ a, a ≠ 21 → M1 a = M a) ∧ (∀ k, k < pn P → M1 21 (ord k) = (zio P ord (pn P)).1 (ord k)) ∧ ∀ i, i < 60 → -3 ≤ M1 21 i ∧ M1 21 i ≤ 1000) := by
  have h60 := hw.1
  have hn := hB.1
  have hu := hB.2.1
  have hu8 := hw.2.2.1
  refine zf_of rfl (Nat.le_of_ble_eq_true rfl) ?_
  repeat refine zr_t 7 rfl rfl rfl rfl ?_
  have loop : ∀ (k i : Nat) (o5 o6 : Option zV) (N : zM), i + k = pn P → (∀ a, a ≠ 21 → N a = M a) → (∀ q, q < i → N 21 (ord q) = (zio P ord i).1 (ord q)) → (∀ i, i < 60 → -3 ≤ N 21 i ∧ N 21 i ≤ 1000) → zr (zSh L) 2 tX4_make 7 [some (zvr 20), some (zvr 15), some (zvi (zio P ord i).2.1), some (zvi (zio P ord i).2.2), some (zvi i), o5, o6] [] N (fun v M1 => v = none ∧ (∀ a, a ≠ 21 → M1 a = M a) ∧ (∀ k, k < pn P → M1 21 (ord k) = (zio P ord (pn P)).1 (ord k)) ∧ ∀ i, i < 60 → -3 ≤ M1 21 i ∧ M1 21 i ≤ 1000) := by
    intro k
    induction k with
    | zero =>
      intro i o5 o6 N hi f1 f2 f3
      have hi2 : i = pn P := by omega
      subst hi2
      have hB1 : zBk N P := zBk_of hB (fun a h1 h2 => f1 a (by omega))
      have hn1 := hB1.1
      repeat refine zr_s rfl rfl rfl ?_
      refine zr_ige rfl (by omega) (by omega) (fun h => ?_) (fun h => by omega)
      repeat refine zr_s rfl rfl rfl ?_
      exact zr_retv rfl (⟨rfl, f1, f2, f3⟩)
    | succ k ih =>
      intro i o5 o6 N hi f1 f2 f3
      have hB1 : zBk N P := zBk_of hB (fun a h1 h2 => f1 a (by omega))
      have hn1 := hB1.1
      have hu1 := hB1.2.1
      have hD1 : zDl N P (pn P) := fun q hq a ha => by rw [f1 10 (by omega)]; exact hD q hq a ha
      obtain ⟨ho1, ho2⟩ := hord i (by omega)
      have hok := zio_ok hw (ord := ord) (fun q hq => (hord q hq).2) i (by omega)
      have elc : zlc (fun a => zdc P a (ord i)) (N 21) (ord i) = zlc (fun a => zdc P a (ord i)) (zio P ord i).1 (ord i) := by
        refine zlc_congr _ (fun a ha hd => ?_)
        obtain ⟨k', hk1, hk2⟩ := htop i (by omega) a ha hd
        rw [← hk2]
        exact f2 k' hk1
      have hnx : zio P ord (i + 1) = zionext P (zio P ord i) (ord i) := rfl
      generalize zio P ord i = s at hok elc hnx f2 ⊢
      obtain ⟨p1, p2, p3, p4, p5⟩ := hok
      have hlI : 0 ≤ zlc (fun a => zdc P a (ord i)) s.1 (ord i) ∧ zlc (fun a => zdc P a (ord i)) s.1 (ord i) ≤ s.2.1 + 12 := zlc_I (ord i) p1 (fun a ha => ⟨(zdc_I hw (by omega) ho2).1, (zdc_I hw (by omega) ho2).2, by rcases p5 a (by omega) with h | h <;> omega⟩)
      repeat refine zr_s rfl rfl rfl ?_
      refine zr_ige rfl (by omega) (by omega) (fun h => by omega) (fun h => ?_)
      repeat refine zr_s rfl rfl rfl ?_
      refine zr_ald (i) rfl rfl rfl (by omega) (by decide) ?_
      rw [f1 15 (by decide), ho1]
      repeat refine zr_s rfl rfl rfl ?_
      refine zr_cr rfl rfl rfl (zf_mono (Nat.le_of_ble_eq_true rfl) (sp_leastCycle hw hD1 ho2 ho2 rfl (fun a ha => by have := f3 a (by omega); omega) (fun a ha => by have := f3 a (by omega); omega))) ?_
      rw [elc]
      have fin : ∀ (c q l : Int), 0 ≤ c → c ≤ 1000 → 0 ≤ q → q ≤ 8 → zio P ord (i + 1) = (zfu s.1 (ord i) c, c, q + 1) → zr (zSh L) 2 tX4_make 72 [some (zvr 20), some (zvr 15), some (zvi c), some (zvi q), some (zvi i), some (zvi (ord i)), some (zvi l)] [] N (fun v M1 => v = none ∧ (∀ a, a ≠ 21 → M1 a = M a) ∧ (∀ k, k < pn P → M1 21 (ord k) = (zio P ord (pn P)).1 (ord k)) ∧ ∀ i, i < 60 → -3 ≤ M1 21 i ∧ M1 21 i ≤ 1000) := by
        intro c q l g1 g2 g3 g4 g5
        repeat refine zr_s rfl rfl rfl ?_
        refine zr_ast (ord i) rfl rfl rfl (by omega) (by decide) ?_
        repeat refine zr_s rfl rfl rfl ?_
        refine zr_b rfl rfl ?_
        have h7 := ih (i + 1) (some (zvi (ord i))) (some (zvi l)) (zup N 21 (ord i) c) (by omega) (fun a ha => by rw [zup_row ha]; exact f1 a ha)
        rw [g5] at h7
        refine h7 (fun q hq => ?_) (fun a ha => ?_)
        · show zup N 21 (ord i) c 21 (ord q) = zfu s.1 (ord i) c (ord q)
          by_cases hqi : ord q = ord i
          · rw [hqi, zup_at, zfu_at]
          · rw [zup_off hqi, zfu_off hqi]
            refine f2 q ?_
            have : q ≠ i := fun z => hqi (by rw [z])
            omega
        · by_cases hqi : a = ord i
          · rw [hqi, zup_at]
            omega
          · rw [zup_off hqi]
            exact f3 a ha
      have mid : ∀ l : Int, l = (if s.2.2 = pu P then max (zlc (fun a => zdc P a (ord i)) s.1 (ord i)) (s.2.1 + 1) else zlc (fun a => zdc P a (ord i)) s.1 (ord i)) → zr (zSh L) 2 tX4_make 61 [some (zvr 20), some (zvr 15), some (zvi s.2.1), some (zvi s.2.2), some (zvi i), some (zvi (ord i)), some (zvi l)] [] N (fun v M1 => v = none ∧ (∀ a, a ≠ 21 → M1 a = M a) ∧ (∀ k, k < pn P → M1 21 (ord k) = (zio P ord (pn P)).1 (ord k)) ∧ ∀ i, i < 60 → -3 ≤ M1 21 i ∧ M1 21 i ≤ 1000) := by
        intro l hl
        have hlb : 0 ≤ l ∧ l ≤ 1000 := by
          rw [hl]
          split <;> omega
        repeat refine zr_s rfl rfl rfl ?_
        refine zr_ile rfl (by omega) (by omega) (fun h2 => ?_) (fun h2 => ?_)
        · refine fin s.2.1 s.2.2 l (by omega) (by omega) (by omega) (by omega) ?_
          rw [hnx]
          unfold zionext
          simp only [← hl]
          rw [if_neg (by omega)]
        · repeat refine zr_t 72 rfl rfl rfl rfl ?_
          refine fin l 0 l (by omega) (by omega) (by omega) (by omega) ?_
          rw [hnx]
          unfold zionext
          simp only [← hl]
          rw [if_pos (by omega)]
          rfl
      repeat refine zr_s rfl rfl rfl ?_
      refine zr_ine rfl (by omega) (by omega) (fun h2 => ?_) (fun h2 => ?_)
      · exact mid _ (by rw [if_neg (by omega)])
      · repeat refine zr_s rfl rfl rfl ?_
        refine zr_cr rfl rfl rfl (zf_mono (Nat.le_of_ble_eq_true rfl) (sp_max (by omega) (by omega))) ?_
        repeat refine zr_t 61 rfl rfl rfl rfl ?_
        exact mid _ (by rw [if_pos (by omega)])
  exact loop (pn P) 0 _ _ M (by omega) (fun _ _ => rfl) (fun q hq => by omega) hr
end ZX
