/-! A PLAN OF ONE'S OWN, as the class looks at it -/
def zct (w : Nat → Int) (c : Int) : Nat → Nat
  | 0 => 0
  | i + 1 => zct w c i + if w i = c then 1 else 0
def zbad (P : zP) (w : Nat → Int) (i j : Nat) : Prop := zdc P i j ≠ -3 ∧ w j < w i + zdc P i j
/-- the verdict v with its two numbers -/
def zVd (P : zP) (w : Nat → Int) (v a b : Int) : Prop :=
  (v = 1 ∧ b = -3 ∧ ∃ i : Nat, i < pn P ∧ w i = -3 ∧ (∀ q, q < i → w q ≠ -3) ∧ a = i) ∨
  (v = 2 ∧ (∀ i, i < pn P → w i ≠ -3) ∧ ∃ i j : Nat, i < j ∧ j < pn P ∧ zbad P w i j ∧ (∀ j2, j2 < j → ∀ i2, i2 < j2 → ¬ zbad P w i2 j2) ∧ (∀ i2, i2 < i → ¬ zbad P w i2 j) ∧ a = i ∧ b = j) ∨
  (v = 3 ∧ (∀ i, i < pn P → w i ≠ -3) ∧ (∀ j, j < pn P → ∀ i, i < j → ¬ zbad P w i j) ∧ b = -3 ∧ 0 ≤ a ∧ pu P < zct w a (pn P) ∧ ∀ c, 0 ≤ c → c < a → zct w c (pn P) ≤ pu P) ∨
  (v = 0 ∧ (∀ i, i < pn P → w i ≠ -3) ∧ (∀ j, j < pn P → ∀ i, i < j → ¬ zbad P w i j) ∧ (∀ c, 0 ≤ c → zct w c (pn P) ≤ pu P) ∧ a = -3 ∧ b = -3)
theorem zct_le (w : Nat → Int) (c : Int) : ∀ m, zct w c m ≤ m
  | 0 => Nat.le_refl _
  | m + 1 => by
    have := zct_le w c m
    show zct w c m + (if w m = c then 1 else 0) ≤ m + 1
    split <;> omega
theorem zct_ex {w : Nat → Int} {c : Int} : ∀ m, 0 < zct w c m → ∃ i, i < m ∧ w i = c
  | 0, h => absurd h (Nat.lt_irrefl 0)
  | m + 1, h => by
    have h : 0 < zct w c m + (if w m = c then 1 else 0) := h
    by_cases hm : w m = c
    · exact ⟨m, by omega, hm⟩
    · rw [if_neg hm] at h
      obtain ⟨i, h1, h2⟩ := zct_ex m (by omega)
      exact ⟨i, by omega, h2⟩
section ZX
variable {L : Nat} {M : zM} {P : zP}
theorem sp_howManyIn {c : Int} (hB : zBk M P) (hw : zWf P) (hr : ∀ i, i < pn P → zI (M 25 i)) (hc : zI c) : zf (zSh L) 1 kX5_howManyIn [zvr 24, zvi c] M (fun v M1 => v = some (.inl (zct (M 25) c (pn P))) ∧ M1 = M) := by
  have h60 := hw.1
  have hn := hB.1
  refine zf_of rfl (Nat.le_of_ble_eq_true rfl) ?_
  repeat refine zr_t 4 rfl rfl rfl rfl ?_
  have loop : ∀ (k i : Nat), i + k = pn P → zr (zSh L) 0 tX5_howManyIn 4 [some (zvr 24), some (zvi c), some (zvi (zct (M 25) c i)), some (zvi i)] [] M (fun v M1 => v = some (.inl (zct (M 25) c (pn P))) ∧ M1 = M) := by
    intro k
    induction k with
    | zero =>
      intro i hi
      repeat refine zr_s rfl rfl rfl ?_
      refine zr_ige rfl (by omega) (by omega) (fun h => ?_) (fun h => by omega)
      repeat refine zr_s rfl rfl rfl ?_
      exact zr_ret rfl (⟨by rw [show i = pn P by omega], rfl⟩)
    | succ k ih =>
      intro i hi
      have e : ((zct (M 25) c (i + 1) : Nat) : Int) = zct (M 25) c i + if M 25 i = c then 1 else 0 := by
        show ((zct (M 25) c i + (if M 25 i = c then 1 else 0) : Nat) : Int) = _
        split <;> omega
      have h7 := ih (i + 1) (by omega)
      rw [e] at h7
      repeat refine zr_s rfl rfl rfl ?_
      refine zr_ige rfl (by omega) (by omega) (fun h => by omega) (fun h => ?_)
      repeat refine zr_s rfl rfl rfl ?_
      refine zr_ald (i) rfl rfl rfl (by omega) (by decide) ?_
      repeat refine zr_s rfl rfl rfl ?_
      refine zr_ine rfl (hr i (by omega)) hc (fun h => ?_) (fun h => ?_)
      · rw [if_neg h, Int.add_zero] at h7
        repeat refine zr_s rfl rfl rfl ?_
        refine zr_b rfl rfl ?_
        exact h7
      · rw [if_pos h] at h7
        repeat refine zr_s rfl rfl rfl ?_
        refine zr_b rfl rfl ?_
        exact h7
  exact loop (pn P) 0 (by omega)
theorem sp_forgetFrom {m : Nat} (hm : m ≤ 60) : zf (zSh L) 1 kX5_forgetFrom [zvr 24, zvi m] M (fun v M1 => v = none ∧ (∀ a, a ≠ 25 → M1 a = M a) ∧ (∀ i, i < m → M1 25 i = M 25 i) ∧ ∀ i, m ≤ i → i < 60 → M1 25 i = -3) := by
  refine zf_of rfl (Nat.le_of_ble_eq_true rfl) ?_
  repeat refine zr_t 2 rfl rfl rfl rfl ?_
  have loop : ∀ (k i : Nat) (N : zM), i + k = 60 → m ≤ i → (∀ a, a ≠ 25 → N a = M a) → (∀ q, q < m → N 25 q = M 25 q) → (∀ q, m ≤ q → q < i → N 25 q = -3) → zr (zSh L) 0 tX5_forgetFrom 2 [some (zvr 24), some (zvi m), some (zvi i)] [] N (fun v M1 => v = none ∧ (∀ a, a ≠ 25 → M1 a = M a) ∧ (∀ i, i < m → M1 25 i = M 25 i) ∧ ∀ i, m ≤ i → i < 60 → M1 25 i = -3) := by
    intro k
    induction k with
    | zero =>
      intro i N hi hmi f1 f2 f3
      repeat refine zr_s rfl rfl rfl ?_
      refine zr_ige rfl (by omega) (by decide) (fun h => ?_) (fun h => by omega)
      repeat refine zr_s rfl rfl rfl ?_
      exact zr_retv rfl (⟨rfl, f1, f2, fun q h1 h2 => f3 q h1 (by omega)⟩)
    | succ k ih =>
      intro i N hi hmi f1 f2 f3
      repeat refine zr_s rfl rfl rfl ?_
      refine zr_ige rfl (by omega) (by decide) (fun h => by omega) (fun h => ?_)
      repeat refine zr_s rfl rfl rfl ?_
      refine zr_ast (i) rfl rfl rfl (by omega) (by decide) ?_
      repeat refine zr_s rfl rfl rfl ?_
      refine zr_b rfl rfl ?_
      refine ih (i + 1) _ (by omega) (by omega) (fun a ha => by rw [zup_row ha]; exact f1 a ha) (fun q hq => by rw [zup_off (by omega)]; exact f2 q hq) (fun q h1 h2 => ?_)
      by_cases hq : q = i
      · subst hq
        exact zup_at
      · rw [zup_off hq]
        exact f3 q h1 (by omega)
  exact loop (60 - m) m M (by omega) (Nat.le_refl _) (fun _ _ => rfl) (fun _ _ => rfl) (fun q h1 h2 => by omega)
theorem sp_findWithoutCycle (hB : zBk M P) (hw : zWf P) (hr : ∀ i, i < pn P → zI (M 25 i)) : zf (zSh L) 1 kX5_findWithoutCycle [zvr 24] M (fun v M1 => (v = some (.inl 1) ∧ ∃ i : Nat, i < pn P ∧ M 25 i = -3 ∧ (∀ q, q < i → M 25 q ≠ -3) ∧ M1 = zup M 24 1 i) ∨ (v = some (.inl 0) ∧ (∀ i, i < pn P → M 25 i ≠ -3) ∧ M1 = M)) := by
  have h60 := hw.1
  have hn := hB.1
  refine zf_of rfl (Nat.le_of_ble_eq_true rfl) ?_
  repeat refine zr_t 2 rfl rfl rfl rfl ?_
  have loop : ∀ (k i : Nat), i + k = pn P → (∀ q, q < i → M 25 q ≠ -3) → zr (zSh L) 0 tX5_findWithoutCycle 2 [some (zvr 24), some (zvi i)] [] M (fun v M1 => (v = some (.inl 1) ∧ ∃ i : Nat, i < pn P ∧ M 25 i = -3 ∧ (∀ q, q < i → M 25 q ≠ -3) ∧ M1 = zup M 24 1 i) ∨ (v = some (.inl 0) ∧ (∀ i, i < pn P → M 25 i ≠ -3) ∧ M1 = M)) := by
    intro k
    induction k with
    | zero =>
      intro i hi f1
      repeat refine zr_s rfl rfl rfl ?_
      refine zr_ige rfl (by omega) (by omega) (fun h => ?_) (fun h => by omega)
      repeat refine zr_s rfl rfl rfl ?_
      exact zr_retz rfl (by omega) (Or.inr ⟨rfl, fun q hq => f1 q (by omega), rfl⟩)
    | succ k ih =>
      intro i hi f1
      repeat refine zr_s rfl rfl rfl ?_
      refine zr_ige rfl (by omega) (by omega) (fun h => by omega) (fun h => ?_)
      repeat refine zr_s rfl rfl rfl ?_
      refine zr_ald (i) rfl rfl rfl (by omega) (by decide) ?_
      repeat refine zr_s rfl rfl rfl ?_
      refine zr_ine rfl (hr i (by omega)) (by decide) (fun h => ?_) (fun h => ?_)
      · repeat refine zr_s rfl rfl rfl ?_
        refine zr_b rfl rfl ?_
        refine ih (i + 1) (by omega) (fun q hq => ?_)
        by_cases hqi : q = i
        · rw [hqi]; exact h
        · exact f1 q (by omega)
      · repeat refine zr_s rfl rfl rfl ?_
        exact zr_retz rfl (by omega) (Or.inl ⟨rfl, i, by omega, h, f1, rfl⟩)
  exact loop (pn P) 0 (by omega) (fun q hq => by omega)
theorem sp_findDelayNotKept (hB : zBk M P) (hw : zWf P) (hD : zDl M P (pn P)) (hr : ∀ i, i < pn P → -3 ≤ M 25 i ∧ M 25 i ≤ 1000) : zf (zSh L) 3 kX5_findDelayNotKept [zvr 24] M (fun v M1 => (v = some (.inl 1) ∧ ∃ i j : Nat, i < j ∧ j < pn P ∧ zbad P (M 25) i j ∧ (∀ j2, j2 < j → ∀ i2, i2 < j2 → ¬ zbad P (M 25) i2 j2) ∧ (∀ i2, i2 < i → ¬ zbad P (M 25) i2 j) ∧ M1 = zup (zup M 24 1 i) 24 2 j) ∨ (v = some (.inl 0) ∧ (∀ j, j < pn P → ∀ i, i < j → ¬ zbad P (M 25) i j) ∧ M1 = M)) := by
  have h60 := hw.1
  have hn := hB.1
  refine zf_of rfl (Nat.le_of_ble_eq_true rfl) ?_
  repeat refine zr_t 2 rfl rfl rfl rfl ?_
  have loop : ∀ (k j : Nat) (o2 o3 : Option zV), j + k = pn P → (∀ j2, j2 < j → ∀ i2, i2 < j2 → ¬ zbad P (M 25) i2 j2) → zr (zSh L) 2 tX5_findDelayNotKept 2 [some (zvr 24), some (zvi j), o2, o3] [] M (fun v M1 => (v = some (.inl 1) ∧ ∃ i j : Nat, i < j ∧ j < pn P ∧ zbad P (M 25) i j ∧ (∀ j2, j2 < j → ∀ i2, i2 < j2 → ¬ zbad P (M 25) i2 j2) ∧ (∀ i2, i2 < i → ¬ zbad P (M 25) i2 j) ∧ M1 = zup (zup M 24 1 i) 24 2 j) ∨ (v = some (.inl 0) ∧ (∀ j, j < pn P → ∀ i, i < j → ¬ zbad P (M 25) i j) ∧ M1 = M)) := by
    intro k
    induction k with
    | zero =>
      intro j o2 o3 hj f1
      repeat refine zr_s rfl rfl rfl ?_
      refine zr_ige rfl (by omega) (by omega) (fun h => ?_) (fun h => by omega)
      repeat refine zr_s rfl rfl rfl ?_
      exact zr_retz rfl (by omega) (Or.inr ⟨rfl, fun q hq => f1 q (by omega), rfl⟩)
    | succ k ih =>
      intro j o2 o3 hj f1
      have hjn : j < pn P := by omega
      repeat refine zr_s rfl rfl rfl ?_
      refine zr_ige rfl (by omega) (by omega) (fun h => by omega) (fun h => ?_)
      repeat refine zr_t 15 rfl rfl rfl rfl ?_
      have inner : ∀ (r i : Nat) (o3 : Option zV), i + r = j → (∀ i2, i2 < i → ¬ zbad P (M 25) i2 j) → zr (zSh L) 2 tX5_findDelayNotKept 15 [some (zvr 24), some (zvi j), some (zvi i), o3] [] M (fun v M1 => (v = some (.inl 1) ∧ ∃ i j : Nat, i < j ∧ j < pn P ∧ zbad P (M 25) i j ∧ (∀ j2, j2 < j → ∀ i2, i2 < j2 → ¬ zbad P (M 25) i2 j2) ∧ (∀ i2, i2 < i → ¬ zbad P (M 25) i2 j) ∧ M1 = zup (zup M 24 1 i) 24 2 j) ∨ (v = some (.inl 0) ∧ (∀ j, j < pn P → ∀ i, i < j → ¬ zbad P (M 25) i j) ∧ M1 = M)) := by
        intro r
        induction r with
        | zero =>
          intro i o3 hi g1
          repeat refine zr_s rfl rfl rfl ?_
          refine zr_ige rfl (by omega) (by omega) (fun h => ?_) (fun h => by omega)
          repeat refine zr_s rfl rfl rfl ?_
          refine zr_b rfl rfl ?_
          refine ih (j + 1) _ _ (by omega) (fun j2 h1 i2 h2 => ?_)
          by_cases hjj : j2 = j
          · rw [hjj]
            exact g1 i2 (by omega)
          · exact f1 j2 (by omega) i2 h2
        | succ r ihr =>
          intro i o3 hi g1
          have hz := zdc_I hw (i := i) (j := j) (by omega) hjn
          have hri := hr i (by omega)
          have hrj := hr j hjn
          have next : ¬ zbad P (M 25) i j → ∀ i2, i2 < i + 1 → ¬ zbad P (M 25) i2 j := by
            intro hb i2 h2
            by_cases hii : i2 = i
            · rw [hii]; exact hb
            · exact g1 i2 (by omega)
          repeat refine zr_s rfl rfl rfl ?_
          refine zr_ige rfl (by omega) (by omega) (fun h => by omega) (fun h => ?_)
          repeat refine zr_s rfl rfl rfl ?_
          refine zr_cr rfl rfl rfl (zf_mono (Nat.le_of_ble_eq_true rfl) (sp_between hw hD (i := i) (by omega) hjn)) ?_
          rw [if_pos (by omega)]
          repeat refine zr_s rfl rfl rfl ?_
          refine zr_ieq rfl (by omega) (by decide) (fun h3 => ?_) (fun h3 => ?_)
          · repeat refine zr_s rfl rfl rfl ?_
            refine zr_b rfl rfl ?_
            exact ihr (i + 1) _ (by omega) (next (fun z => z.1 h3))
          · repeat refine zr_s rfl rfl rfl ?_
            refine zr_ald (j) rfl rfl rfl (by omega) (by decide) ?_
            repeat refine zr_s rfl rfl rfl ?_
            refine zr_ald (i) rfl rfl rfl (by omega) (by decide) ?_
            repeat refine zr_s rfl rfl rfl ?_
            refine zr_ige rfl (by omega) (by omega) (fun h4 => ?_) (fun h4 => ?_)
            · repeat refine zr_s rfl rfl rfl ?_
              refine zr_b rfl rfl ?_
              exact ihr (i + 1) _ (by omega) (next (fun z => by have := z.2; omega))
            · repeat refine zr_s rfl rfl rfl ?_
              exact zr_retz rfl (by omega) (Or.inl ⟨rfl, i, j, by omega, hjn, ⟨h3, h4⟩, f1, g1, rfl⟩)
      exact inner j 0 _ (by omega) (fun i2 h2 => by omega)
  exact loop (pn P) 0 _ _ (by omega) (fun q hq => by omega)
theorem sp_findTooMany (hB : zBk M P) (hw : zWf P) (hr : ∀ i, i < pn P → 0 ≤ M 25 i ∧ M 25 i ≤ 1000) (h1 : M 24 1 = -3) : zf (zSh L) 2 kX5_findTooMany [zvr 24] M (fun v M1 => (v = some (.inl 1) ∧ ∃ a : Int, 0 ≤ a ∧ pu P < zct (M 25) a (pn P) ∧ (∀ c, 0 ≤ c → c < a → zct (M 25) c (pn P) ≤ pu P) ∧ M1 = zup M 24 1 a) ∨ (v = some (.inl 0) ∧ (∀ c, 0 ≤ c → zct (M 25) c (pn P) ≤ pu P) ∧ M1 = M)) := by
  have h60 := hw.1
  have hn := hB.1
  have hu := hB.2.1
  have hu8 := hw.2.2.1
  have hself : ∀ x : Int, M 24 1 = x → zup M 24 1 x = M := by
    intro x hx
    funext a b
    unfold zup
    split
    · rename_i h5
      rw [h5.1, h5.2, hx]
    · rfl
  refine zf_of rfl (Nat.le_of_ble_eq_true rfl) ?_
  repeat refine zr_t 2 rfl rfl rfl rfl ?_
  have loop : ∀ (k i : Nat) (o2 : Option zV) (x : Int), i + k = pn P → ((x = -3 ∧ ∀ q, q < i → zct (M 25) (M 25 q) (pn P) ≤ pu P) ∨ (0 ≤ x ∧ x ≤ 1000 ∧ pu P < zct (M 25) x (pn P) ∧ ∀ q, q < i → pu P < zct (M 25) (M 25 q) (pn P) → x ≤ M 25 q)) → zr (zSh L) 1 tX5_findTooMany 2 [some (zvr 24), some (zvi i), o2] [] (zup M 24 1 x) (fun v M1 => (v = some (.inl 1) ∧ ∃ a : Int, 0 ≤ a ∧ pu P < zct (M 25) a (pn P) ∧ (∀ c, 0 ≤ c → c < a → zct (M 25) c (pn P) ≤ pu P) ∧ M1 = zup M 24 1 a) ∨ (v = some (.inl 0) ∧ (∀ c, 0 ≤ c → zct (M 25) c (pn P) ≤ pu P) ∧ M1 = M)) := by
    intro k
    induction k with
    | zero =>
      intro i o2 x hi hx
      have e2 : zup M 24 1 x 2 6 = pn P := by rw [zup_row (by decide)]; exact hn
      repeat refine zr_s rfl rfl rfl ?_
      refine zr_ige rfl (by omega) (by omega) (fun h => ?_) (fun h => by omega)
      repeat refine zr_s rfl rfl rfl ?_
      rw [zup_at]
      rcases hx with ⟨rfl, hx⟩ | ⟨g1, g2, g3, g4⟩
      · refine zr_ieq rfl (by decide) (by decide) (fun _ => ?_) (fun h => absurd rfl h)
        repeat refine zr_s rfl rfl rfl ?_
        refine zr_retz rfl (by omega) (Or.inr ⟨rfl, fun c hc => ?_, hself _ h1⟩)
        apply Nat.le_of_not_lt
        intro hlt
        obtain ⟨q, q1, q2⟩ := zct_ex (pn P) (Nat.lt_of_le_of_lt (Nat.zero_le _) hlt)
        have := hx q (by omega)
        rw [q2] at this
        omega
      · refine zr_ieq rfl (by omega) (by decide) (fun h => by omega) (fun _ => ?_)
        repeat refine zr_s rfl rfl rfl ?_
        refine zr_retz rfl (by omega) (Or.inl ⟨rfl, x, g1, g3, fun c hc hlt => ?_, rfl⟩)
        apply Nat.le_of_not_lt
        intro hl2
        obtain ⟨q, q1, q2⟩ := zct_ex (pn P) (Nat.lt_of_le_of_lt (Nat.zero_le _) hl2)
        have := g4 q (by omega) (by rw [q2]; exact hl2)
        omega
    | succ k ih =>
      intro i o2 x hi hx
      have e2 : zup M 24 1 x 2 6 = pn P := by rw [zup_row (by decide)]; exact hn
      have e27 : zup M 24 1 x 2 7 = pu P := by rw [zup_row (by decide)]; exact hu
      have e25 : zup M 24 1 x 25 = M 25 := zup_row (by decide)
      have hBN : zBk (zup M 24 1 x) P := zBk_of hB (fun a g1 g2 => zup_row (by omega))
      have hri := hr i (by omega)
      have hctl := zct_le (M 25) (M 25 i) (pn P)
      have skip : ∀ o2, (¬ (x = -3 ∨ M 25 i < x) ∨ zct (M 25) (M 25 i) (pn P) ≤ pu P) → zr (zSh L) 1 tX5_findTooMany 75 [some (zvr 24), some (zvi i), o2] [] (zup M 24 1 x) (fun v M1 => (v = some (.inl 1) ∧ ∃ a : Int, 0 ≤ a ∧ pu P < zct (M 25) a (pn P) ∧ (∀ c, 0 ≤ c → c < a → zct (M 25) c (pn P) ≤ pu P) ∧ M1 = zup M 24 1 a) ∨ (v = some (.inl 0) ∧ (∀ c, 0 ≤ c → zct (M 25) c (pn P) ≤ pu P) ∧ M1 = M)) := by
        intro o2 hs
        repeat refine zr_s rfl rfl rfl ?_
        refine zr_b rfl rfl ?_
        refine ih (i + 1) _ x (by omega) ?_
        rcases hx with ⟨g0, g1⟩ | ⟨g1, g2, g3, g4⟩
        · refine Or.inl ⟨g0, fun q hq => ?_⟩
          by_cases hqi : q = i
          · rw [hqi]
            rcases hs with h | h
            · exact absurd (Or.inl g0) h
            · exact h
          · exact g1 q (by omega)
        · refine Or.inr ⟨g1, g2, g3, fun q hq hc => ?_⟩
          by_cases hqi : q = i
          · rw [hqi] at hc ⊢
            rcases hs with h | h <;> omega
          · exact g4 q (by omega) hc
      have try1 : (x = -3 ∨ M 25 i < x) → zr (zSh L) 1 tX5_findTooMany 45 [some (zvr 24), some (zvi i), some (zvi 1)] [] (zup M 24 1 x) (fun v M1 => (v = some (.inl 1) ∧ ∃ a : Int, 0 ≤ a ∧ pu P < zct (M 25) a (pn P) ∧ (∀ c, 0 ≤ c → c < a → zct (M 25) c (pn P) ≤ pu P) ∧ M1 = zup M 24 1 a) ∨ (v = some (.inl 0) ∧ (∀ c, 0 ≤ c → zct (M 25) c (pn P) ≤ pu P) ∧ M1 = M)) := by
        intro hs
        repeat refine zr_s rfl rfl rfl ?_
        refine zr_ald (i) rfl rfl rfl (by omega) (by decide) ?_
        rw [e25]
        refine zr_cr rfl rfl rfl (zf_mono (Nat.le_of_ble_eq_true rfl) (sp_howManyIn hBN hw (fun q hq => by rw [e25]; have := hr q hq; exact ⟨by omega, by omega⟩) (by omega))) ?_
        rw [e25]
        repeat refine zr_s rfl rfl rfl ?_
        refine zr_ile rfl (by omega) (by omega) (fun h3 => ?_) (fun h3 => ?_)
        · exact skip _ (Or.inr (by omega))
        · repeat refine zr_s rfl rfl rfl ?_
          refine zr_ald (i) rfl rfl rfl (by omega) (by decide) ?_
          rw [e25]
          repeat refine zr_s rfl rfl rfl ?_
          refine zr_b rfl rfl ?_
          have e9 : zup (zup M 24 1 x) 24 1 (M 25 i) = zup M 24 1 (M 25 i) := by
            funext a b
            unfold zup
            split <;> rfl
          rw [e9]
          refine ih (i + 1) _ (M 25 i) (by omega) (Or.inr ⟨by omega, by omega, by omega, fun q hq hc => ?_⟩)
          by_cases hqi : q = i
          · rw [hqi]; exact Int.le_refl _
          · rcases hx with ⟨g0, g1⟩ | ⟨g1, g2, g3, g4⟩
            · have := g1 q (by omega)
              omega
            · have := g4 q (by omega) hc
              omega
      repeat refine zr_s rfl rfl rfl ?_
      refine zr_ige rfl (by omega) (by omega) (fun h => by omega) (fun h => ?_)
      repeat refine zr_s rfl rfl rfl ?_
      rw [zup_at]
      refine zr_ieq rfl (by omega) (by decide) (fun h3 => ?_) (fun h3 => ?_)
      · repeat refine zr_s rfl rfl rfl ?_
        refine zr_zeq rfl (by decide) (fun h => by cases h) (fun _ => ?_)
        exact try1 (Or.inl h3)
      · repeat refine zr_s rfl rfl rfl ?_
        refine zr_ald (i) rfl rfl rfl (by omega) (by decide) ?_
        rw [e25]
        repeat refine zr_s rfl rfl rfl ?_
        rw [zup_at]
        refine zr_ige rfl (by omega) (by omega) (fun h4 => ?_) (fun h4 => ?_)
        · repeat refine zr_s rfl rfl rfl ?_
          refine zr_zeq rfl (by decide) (fun _ => ?_) (fun h => absurd rfl h)
          exact skip _ (Or.inl (by omega))
        · repeat refine zr_s rfl rfl rfl ?_
          refine zr_zeq rfl (by decide) (fun h => by cases h) (fun _ => ?_)
          exact try1 (Or.inr h4)
  have h9 := loop (pn P) 0 none (-3) (by omega) (Or.inl ⟨rfl, fun q hq => by omega⟩)
  rw [hself _ h1] at h9
  exact h9
theorem sp_inspect (hB : zBk M P) (hw : zWf P) (hD : zDl M P (pn P)) (hr : ∀ i, i < pn P → M 25 i = -3 ∨ (0 ≤ M 25 i ∧ M 25 i ≤ 1000)) : zf (zSh L) 4 kX5_inspect [zvr 24] M (fun v M1 => ∃ r a b : Int, v = some (.inl r) ∧ zVd P (M 25) r a b ∧ (∀ q, q ≠ 24 → M1 q = M q) ∧ M1 24 1 = a ∧ M1 24 2 = b) := by
  have h60 := hw.1
  refine zf_of rfl (Nat.le_of_ble_eq_true rfl) ?_
  repeat refine zr_s rfl rfl rfl ?_
  have e25 : zup (zup M 24 1 (-3)) 24 2 (-3) 25 = M 25 := by rw [zup_row (by decide), zup_row (by decide)]
  have hrow : ∀ q, q ≠ 24 → zup (zup M 24 1 (-3)) 24 2 (-3) q = M q := fun q hq => by rw [zup_row hq, zup_row hq]
  have hB0 : zBk (zup (zup M 24 1 (-3)) 24 2 (-3)) P := zBk_of hB (fun a g1 g2 => hrow a (by omega))
  have hD0 : zDl (zup (zup M 24 1 (-3)) 24 2 (-3)) P (pn P) := fun x hx a ha => by rw [hrow 10 (by decide)]; exact hD x hx a ha
  have h241 : zup (zup M 24 1 (-3)) 24 2 (-3) 24 1 = -3 := by rw [zup_off (by decide), zup_at]
  have h242 : zup (zup M 24 1 (-3)) 24 2 (-3) 24 2 = -3 := zup_at
  generalize zup (zup M 24 1 (-3)) 24 2 (-3) = N at *
  refine zr_c rfl rfl rfl (zf_mono (Nat.le_of_ble_eq_true rfl) (sp_findWithoutCycle hB0 hw (fun i hi => by rw [e25]; rcases hr i hi with h | h <;> exact ⟨by omega, by omega⟩))) (fun v M1 hv => ?_)
  rw [e25] at hv
  rcases hv with ⟨rfl, i, g1, g2, g3, rfl⟩ | ⟨rfl, g1, rfl⟩
  · refine zr_zeq rfl (by decide) (fun h => by cases h) (fun _ => ?_)
    repeat refine zr_s rfl rfl rfl ?_
    refine zr_ret rfl ⟨1, i, -3, rfl, Or.inl ⟨rfl, rfl, i, g1, g2, g3, rfl⟩, fun q hq => by rw [zup_row hq]; exact hrow q hq, zup_at, by rw [zup_off (by decide)]; exact h242⟩
  · refine zr_zeq rfl (by decide) (fun _ => ?_) (fun h => absurd rfl h)
    have hr2 : ∀ i, i < pn P → 0 ≤ M 25 i ∧ M 25 i ≤ 1000 := fun i hi => by rcases hr i hi with h | h; exact absurd h (g1 i hi); exact h
    repeat refine zr_s rfl rfl rfl ?_
    refine zr_c rfl rfl rfl (zf_mono (Nat.le_of_ble_eq_true rfl) (sp_findDelayNotKept hB0 hw hD0 (fun i hi => by rw [e25]; have := hr2 i hi; omega))) (fun v M1 hv => ?_)
    rw [e25] at hv
    rcases hv with ⟨rfl, i, j, q1, q2, q3, q4, q5, rfl⟩ | ⟨rfl, q1, rfl⟩
    · refine zr_zeq rfl (by decide) (fun h => by cases h) (fun _ => ?_)
      repeat refine zr_s rfl rfl rfl ?_
      refine zr_ret rfl ⟨2, i, j, rfl, Or.inr (Or.inl ⟨rfl, g1, i, j, q1, q2, q3, q4, q5, rfl, rfl⟩), fun q hq => by rw [zup_row hq, zup_row hq]; exact hrow q hq, by rw [zup_off (by decide), zup_at], zup_at⟩
    · refine zr_zeq rfl (by decide) (fun _ => ?_) (fun h => absurd rfl h)
      repeat refine zr_s rfl rfl rfl ?_
      refine zr_c rfl rfl rfl (zf_mono (Nat.le_of_ble_eq_true rfl) (sp_findTooMany hB0 hw (fun i hi => by rw [e25]; exact hr2 i hi) h241)) (fun v M1 hv => ?_)
      rw [e25] at hv
      rcases hv with ⟨rfl, a, p1, p2, p3, rfl⟩ | ⟨rfl, p1, rfl⟩
      · refine zr_zeq rfl (by decide) (fun h => by cases h) (fun _ => ?_)
        repeat refine zr_s rfl rfl rfl ?_
        refine zr_ret rfl ⟨3, a, -3, rfl, Or.inr (Or.inr (Or.inl ⟨rfl, g1, q1, rfl, p1, p2, p3⟩)), fun q hq => by rw [zup_row hq]; exact hrow q hq, zup_at, by rw [zup_off (by decide)]; exact h242⟩
      · refine zr_zeq rfl (by decide) (fun _ => ?_) (fun h => absurd rfl h)
        repeat refine zr_s rfl rfl rfl ?_
        refine zr_ret rfl ⟨0, -3, -3, rfl, Or.inr (Or.inr (Or.inr ⟨rfl, g1, q1, p1, rfl, rfl⟩)), fun q hq => hrow q hq, h241, h242⟩
end ZX
