/-! DEPENDENCES: all delays, early cycles, ways -/
def zDl (M : zM) (P : zP) (m : Nat) : Prop := ∀ j, j < m → ∀ i, i < j → M 10 (ztr j + i) = zdc P i j
def zpc (P : zP) (j : Nat) : Nat → Nat
  | 0 => 0
  | m + 1 => zpc P j m + if zdc P (j - 1 - m) j ≠ -3 then 1 else 0
def zpairs (P : zP) : Nat → Nat
  | 0 => 0
  | j + 1 => zpairs P j + zpc P j j
def zlc (g f : Nat → Int) : Nat → Int
  | 0 => 0
  | i + 1 => if g i ≠ -3 ∧ 0 ≤ f i then max (zlc g f i) (f i + g i) else zlc g f i
def zIsE (P : zP) (f : Nat → Int) (m : Nat) : Prop := ∀ j, j < m → f j = zlc (fun i => zdc P i j) f j
def zwf (P : zP) (i : Nat) (f : Nat → Int) : Nat → Int
  | 0 => pl P i
  | t + 1 => if zdc P i (i + 1 + t) ≠ -3 then max (zwf P i f t) (zdc P i (i + 1 + t) + f (i + 1 + t)) else zwf P i f t
def zIsW (P : zP) (f : Nat → Int) (a : Nat) : Prop := ∀ i, a ≤ i → i < pn P → f i = zwf P i f (pn P - 1 - i)
def zmxr (f : Nat → Int) (a : Nat) : Nat → Int
  | 0 => 0
  | m + 1 => max (zmxr f (a + 1) m) (f a)
theorem zup_row {M : zM} {i k a : Nat} {x : Int} (h : a ≠ i) : zup M i k x a = M a := funext (fun q => zup_ne h q)
theorem zup_at {M : zM} {i k : Nat} {x : Int} : zup M i k x i k = x := by
  unfold zup
  rw [if_pos ⟨rfl, rfl⟩]
theorem zup_off {M : zM} {i k b : Nat} {x : Int} (h : b ≠ k) : zup M i k x i b = M i b := by
  unfold zup
  rw [if_neg (fun z => h z.2)]
theorem zpc_le (P : zP) (j : Nat) : ∀ m, zpc P j m ≤ m
  | 0 => Nat.le_refl _
  | m + 1 => by
    have := zpc_le P j m
    unfold zpc
    split <;> omega
theorem zpairs_le (P : zP) : ∀ j, zpairs P j ≤ ztr j
  | 0 => Nat.le_refl _
  | j + 1 => by
    have := zpairs_le P j
    have := zpc_le P j j
    show zpairs P j + zpc P j j ≤ ztr j + j
    omega
theorem zlc_I {g f : Nat → Int} : ∀ (m : Nat) {c : Int}, 0 ≤ c → (∀ i, i < m → -3 ≤ g i ∧ g i ≤ 12 ∧ f i ≤ c) → 0 ≤ zlc g f m ∧ zlc g f m ≤ c + 12
  | 0, c, hc, _ => by
    show (0 : Int) ≤ 0 ∧ (0 : Int) ≤ c + 12
    omega
  | m + 1, c, hc, h => by
    have h1 := zlc_I m hc (fun i hi => h i (by omega))
    have h2 := h m (by omega)
    unfold zlc
    split <;> omega
theorem zwf_I {P : zP} (hw : zWf P) {i : Nat} {f : Nat → Int} (hi : i < pn P) : ∀ (t : Nat), i + t < pn P → (∀ j, i < j → j < pn P → 1 ≤ f j ∧ f j ≤ 12 * ((pn P : Int) - j)) → 1 ≤ zwf P i f t ∧ zwf P i f t ≤ 12 * ((pn P : Int) - i)
  | 0, _, _ => by
    have := zpl_le hw hi
    show (1 : Int) ≤ pl P i ∧ (pl P i : Int) ≤ _
    omega
  | t + 1, ht, hf => by
    have h1 := zwf_I hw hi t (by omega) hf
    have h2 := zdc_I hw hi (j := i + 1 + t) (by omega)
    have h3 := hf (i + 1 + t) (by omega) (by omega)
    unfold zwf
    split
    · push_cast at *
      omega
    · exact h1
section ZX
variable {L : Nat} {M : zM} {P : zP}
theorem sp_between {i j : Nat} (hw : zWf P) (hD : zDl M P (pn P)) (hi : i < pn P) (hj : j < pn P) : zf (zSh L) 2 kX1_between [zvr 9, zvi i, zvi j] M (fun v M1 => v = some (.inl (if i < j then zdc P i j else -3)) ∧ M1 = M) := by
  have h60 := hw.1
  refine zf_of rfl (Nat.le_of_ble_eq_true rfl) ?_
  repeat refine zr_s rfl rfl rfl ?_
  refine zr_ige rfl (by omega) (by omega) (fun h => ?_) (fun h => ?_)
  · repeat refine zr_s rfl rfl rfl ?_
    exact zr_ret rfl (⟨by rw [if_neg (by omega)], rfl⟩)
  · have ht := ztr_lt (j := j) (by omega)
    repeat refine zr_s rfl rfl rfl ?_
    refine zr_cr rfl rfl rfl (zf_mono (Nat.le_of_ble_eq_true rfl) (sp_rowOf (by omega))) ?_
    repeat refine zr_s rfl rfl rfl ?_
    refine zr_ald (ztr j + i) rfl rfl (by omega) (by omega) (by decide) ?_
    repeat refine zr_s rfl rfl rfl ?_
    exact zr_ret rfl (⟨by rw [if_pos (by omega), hD j hj i (by omega)], rfl⟩)
theorem sp_leastCycle {j c m : Nat} (hw : zWf P) (hD : zDl M P m) (hjm : j < m) (hj : j < pn P) (hc : (zSh L)[c]? = some (.inl 60)) (hf : ∀ i, i < j → M c i ≤ 1000000) (hf2 : ∀ i, i < j → -2147483648 ≤ M c i) : zf (zSh L) 2 kX1_leastCycle [zvr 9, zvi j, zvr c] M (fun v M1 => v = some (.inl (zlc (fun i => zdc P i j) (M c) j)) ∧ M1 = M) := by
  have h60 := hw.1
  have ht := ztr_lt (j := j) (by omega)
  refine zf_of rfl (Nat.le_of_ble_eq_true rfl) ?_
  repeat refine zr_s rfl rfl rfl ?_
  refine zr_cr rfl rfl rfl (zf_mono (Nat.le_of_ble_eq_true rfl) (sp_rowOf (by omega))) ?_
  repeat refine zr_t 11 rfl rfl rfl rfl ?_
  have loop : ∀ (k i : Nat) (o : Option zV), i + k = j → zr (zSh L) 1 tX1_leastCycle 11 [some (zvr 9), some (zvi j), some (zvr c), some (zvi (zlc (fun i => zdc P i j) (M c) i)), some (zvi (ztr j)), some (zvi i), o] [] M (fun v M1 => v = some (.inl (zlc (fun i => zdc P i j) (M c) j)) ∧ M1 = M) := by
    intro k
    induction k with
    | zero =>
      intro i o hi
      repeat refine zr_s rfl rfl rfl ?_
      refine zr_ige rfl (by omega) (by omega) (fun h => ?_) (fun h => by omega)
      repeat refine zr_s rfl rfl rfl ?_
      exact zr_ret rfl (⟨by rw [show i = j by omega], rfl⟩)
    | succ k ih =>
      intro i o hi
      have hl := zlc_I (g := fun i => zdc P i j) (f := M c) i (c := 1000000) (by omega) (fun q hq => ⟨(zdc_I hw (by omega) hj).1, (zdc_I hw (by omega) hj).2, hf q (by omega)⟩)
      have hfi := hf i (by omega)
      have hfi2 := hf2 i (by omega)
      have hz := zdc_I hw (i := i) (j := j) (by omega) hj
      repeat refine zr_s rfl rfl rfl ?_
      refine zr_ige rfl (by omega) (by omega) (fun h => by omega) (fun h => ?_)
      repeat refine zr_s rfl rfl rfl ?_
      refine zr_ald (ztr j + i) rfl rfl (by omega) (by omega) (by decide) ?_
      rw [hD j hjm i (by omega)]
      repeat refine zr_s rfl rfl rfl ?_
      refine zr_ieq rfl (by omega) (by decide) (fun h3 => ?_) (fun h3 => ?_)
      · repeat refine zr_s rfl rfl rfl ?_
        refine zr_b rfl rfl ?_
        have e : zlc (fun i => zdc P i j) (M c) (i + 1) = zlc (fun i => zdc P i j) (M c) i := by
          show (if zdc P i j ≠ -3 ∧ 0 ≤ M c i then _ else _) = _
          rw [if_neg (fun z => z.1 h3)]
        rw [← e]
        exact ih (i + 1) _ (by omega)
      · repeat refine zr_s rfl rfl rfl ?_
        refine zr_ald i rfl hc rfl (by omega) (by decide) ?_
        refine zr_zlt rfl (by omega) (fun h4 => ?_) (fun h4 => ?_)
        · repeat refine zr_s rfl rfl rfl ?_
          refine zr_b rfl rfl ?_
          have e : zlc (fun i => zdc P i j) (M c) (i + 1) = zlc (fun i => zdc P i j) (M c) i := by
            show (if zdc P i j ≠ -3 ∧ 0 ≤ M c i then _ else _) = _
            rw [if_neg (fun z => by omega)]
          rw [← e]
          exact ih (i + 1) _ (by omega)
        · repeat refine zr_s rfl rfl rfl ?_
          refine zr_ald i rfl hc rfl (by omega) (by decide) ?_
          repeat refine zr_s rfl rfl rfl ?_
          refine zr_cr rfl rfl rfl (zf_mono (Nat.le_of_ble_eq_true rfl) (sp_max (by omega) (by omega))) ?_
          repeat refine zr_s rfl rfl rfl ?_
          refine zr_b rfl rfl ?_
          have e : zlc (fun i => zdc P i j) (M c) (i + 1) = max (zlc (fun i => zdc P i j) (M c) i) (M c i + zdc P i j) := by
            show (if zdc P i j ≠ -3 ∧ 0 ≤ M c i then _ else _) = _
            rw [if_pos ⟨h3, h4⟩]
          rw [← e]
          exact ih (i + 1) _ (by omega)
  exact loop j 0 _ (by omega)
theorem sp_findDelaysOf {j : Nat} (hB : zBk M P) (hw : zWf P) (hj : j < pn P) (hp : 0 ≤ M 9 2 ∧ M 9 2 ≤ 100000) : zf (zSh L) 4 kX1_findDelaysOf [zvr 9, zvi j] M (fun v M1 => v = none ∧ (∀ a, a ≠ 9 → a ≠ 10 → M1 a = M a) ∧ M1 9 2 = M 9 2 + zpc P j j ∧ (∀ b, b ≠ 2 → M1 9 b = M 9 b) ∧ (∀ i, i < j → M1 10 (ztr j + i) = zdc P i j) ∧ ∀ b, b < ztr j ∨ ztr j + j ≤ b → M1 10 b = M 10 b) := by
  have h60 := hw.1
  have ht := ztr_lt (j := j) (by omega)
  refine zf_of rfl (Nat.le_of_ble_eq_true rfl) ?_
  repeat refine zr_s rfl rfl rfl ?_
  refine zr_cr rfl rfl rfl (zf_mono (Nat.le_of_ble_eq_true rfl) (sp_rowOf (by omega))) ?_
  repeat refine zr_t 12 rfl rfl rfl rfl ?_
  have loop : ∀ (k m : Nat) (o : Option zV) (x : Int) (M1 : zM), m + k = j → x = (j : Int) - 1 - m → (∀ a, a ≠ 9 → a ≠ 10 → M1 a = M a) → M1 9 2 = M 9 2 + zpc P j m → (∀ b, b ≠ 2 → M1 9 b = M 9 b) → (∀ i, i < j → j - m ≤ i → M1 10 (ztr j + i) = zdc P i j) → (∀ b, b < ztr j ∨ ztr j + j ≤ b → M1 10 b = M 10 b) → zr (zSh L) 3 tX1_findDelaysOf 12 [some (zvr 9), some (zvi j), some (zvi (ztr j)), some (zvi (zWb P j m).toInt), some (zvi x), o] [] M1 (fun v M1 => v = none ∧ (∀ a, a ≠ 9 → a ≠ 10 → M1 a = M a) ∧ M1 9 2 = M 9 2 + zpc P j j ∧ (∀ b, b ≠ 2 → M1 9 b = M 9 b) ∧ (∀ i, i < j → M1 10 (ztr j + i) = zdc P i j) ∧ ∀ b, b < ztr j ∨ ztr j + j ≤ b → M1 10 b = M 10 b) := by
    intro k
    induction k with
    | zero =>
      intro m o x M1 hm hx f1 f2 f3 f4 f5
      repeat refine zr_s rfl rfl rfl ?_
      refine zr_zlt rfl (by omega) (fun h => ?_) (fun h => by omega)
      repeat refine zr_s rfl rfl rfl ?_
      exact zr_retv rfl (⟨rfl, f1, by rw [f2, show m = j by omega], f3, fun i hi => f4 i hi (by omega), f5⟩)
    | succ k ih =>
      intro m o x M1 hm hx f1 f2 f3 f4 f5
      have hB1 : zBk M1 P := zBk_of hB (fun a h1 h2 => f1 a (by omega) (by omega))
      have hpc := zpc_le P j m
      have hi : j - 1 - m < pn P := by omega
      have hx2 : x = ((j - 1 - m : Nat) : Int) := by omega
      have hr := zrg_I hw (i := j - 1 - m) (j := j) hi hj (zWb P j m ^^^ (-1))
      have hmm := zmm_I hw (i := j - 1 - m) (j := j) hi (zWb P j m)
      have hdc : zdc P (j - 1 - m) j = max (zrg P (j - 1 - m) j (zWb P j m ^^^ (-1))) (zmm P (j - 1 - m) j (zWb P j m)) := by
        unfold zdc
        rw [show j - 1 - (j - 1 - m) = m by omega]
      subst hx2
      repeat refine zr_s rfl rfl rfl ?_
      refine zr_zlt rfl (by omega) (fun h => by omega) (fun h => ?_)
      repeat refine zr_s rfl rfl rfl ?_
      have e1 : zxor (zWb P j m).toInt (-1) = (zWb P j m ^^^ (-1)).toInt := zxor_to _ (-1)
      rw [e1]
      refine zr_cr rfl rfl rfl (zf_mono (Nat.le_of_ble_eq_true rfl) (sp_registerDelay hB1 hw hi hj)) ?_
      repeat refine zr_s rfl rfl rfl ?_
      refine zr_cr rfl rfl rfl (zf_mono (Nat.le_of_ble_eq_true rfl) (sp_memoryDelay hB1 hw hi hj)) ?_
      refine zr_cr rfl rfl rfl (zf_mono (Nat.le_of_ble_eq_true rfl) (sp_max (by omega) (by omega))) ?_
      rw [← hdc]
      have hz := zdc_I hw hi hj
      repeat refine zr_s rfl rfl rfl ?_
      refine zr_ast (ztr j + (j - 1 - m)) rfl rfl (by omega) (by omega) (by decide) ?_
      have rest : ∀ M2 : zM, (∀ a, a ≠ 9 → a ≠ 10 → M2 a = M a) → M2 9 2 = M 9 2 + zpc P j (m + 1) → (∀ b, b ≠ 2 → M2 9 b = M 9 b) → (∀ i, i < j → j - (m + 1) ≤ i → M2 10 (ztr j + i) = zdc P i j) → (∀ b, b < ztr j ∨ ztr j + j ≤ b → M2 10 b = M 10 b) → zr (zSh L) 3 tX1_findDelaysOf 68 [some (zvr 9), some (zvi j), some (zvi (ztr j)), some (zvi (zWb P j m).toInt), some (zvi ((j - 1 - m : Nat) : Int)), some (zvi (zdc P (j - 1 - m) j))] [] M2 (fun v M1 => v = none ∧ (∀ a, a ≠ 9 → a ≠ 10 → M1 a = M a) ∧ M1 9 2 = M 9 2 + zpc P j j ∧ (∀ b, b ≠ 2 → M1 9 b = M 9 b) ∧ (∀ i, i < j → M1 10 (ztr j + i) = zdc P i j) ∧ ∀ b, b < ztr j ∨ ztr j + j ≤ b → M1 10 b = M 10 b) := by
        intro M2 g1 g2 g3 g4 g5
        have hB2 : zBk M2 P := zBk_of hB (fun a h1 h2 => g1 a (by omega) (by omega))
        repeat refine zr_s rfl rfl rfl ?_
        refine zr_cr rfl rfl rfl (zf_mono (Nat.le_of_ble_eq_true rfl) (sp_written hB2 hw hi)) ?_
        repeat refine zr_s rfl rfl rfl ?_
        refine zr_b rfl rfl ?_
        rw [zor_to]
        exact ih (m + 1) _ _ M2 (by omega) (by omega) g1 g2 g3 g4 g5
      have q1 : ∀ a, a ≠ 9 → a ≠ 10 → zup M1 10 (ztr j + (j - 1 - m)) (zdc P (j - 1 - m) j) a = M a := fun a h1 h2 => by rw [zup_row h2]; exact f1 a h1 h2
      have q4 : ∀ i, i < j → j - (m + 1) ≤ i → zup M1 10 (ztr j + (j - 1 - m)) (zdc P (j - 1 - m) j) 10 (ztr j + i) = zdc P i j := by
        intro i h1 h2
        by_cases h3 : i = j - 1 - m
        · subst h3
          exact zup_at
        · rw [zup_off (by omega)]
          exact f4 i h1 (by omega)
      have q5 : ∀ b, b < ztr j ∨ ztr j + j ≤ b → zup M1 10 (ztr j + (j - 1 - m)) (zdc P (j - 1 - m) j) 10 b = M 10 b := by
        intro b hb
        rw [zup_off (by omega)]
        exact f5 b hb
      have q9 : zup M1 10 (ztr j + (j - 1 - m)) (zdc P (j - 1 - m) j) 9 = M1 9 := zup_row (by decide)
      repeat refine zr_s rfl rfl rfl ?_
      refine zr_ieq rfl (by omega) (by decide) (fun h3 => ?_) (fun h3 => ?_)
      · refine rest _ q1 ?_ (fun b hb => by rw [q9]; exact f3 b hb) q4 q5
        rw [q9, f2]
        show _ = M 9 2 + ((zpc P j m + if zdc P (j - 1 - m) j ≠ -3 then 1 else 0 : Nat) : Int)
        rw [if_neg (fun z => z h3)]
        omega
      · repeat refine zr_t 68 rfl rfl rfl rfl ?_
        refine rest _ (fun a h1 h2 => by rw [zup_row h1]; exact q1 a h1 h2) ?_ (fun b hb => by rw [zup_off hb, q9]; exact f3 b hb) (fun i h1 h2 => by rw [zup_row (by decide)]; exact q4 i h1 h2) (fun b hb => by rw [zup_row (by decide)]; exact q5 b hb)
        rw [zup_at, q9, f2]
        show _ = M 9 2 + ((zpc P j m + if zdc P (j - 1 - m) j ≠ -3 then 1 else 0 : Nat) : Int)
        rw [if_pos h3]
        omega
  exact loop j 0 _ _ M (by omega) (by omega) (fun _ _ _ => rfl) (by simp [zpc]) (fun _ _ => rfl) (fun i h1 h2 => by omega) (fun _ _ => rfl)
theorem zwf_congr {P : zP} {i : Nat} {f g : Nat → Int} : ∀ t, (∀ j, i < j → j ≤ i + t → f j = g j) → zwf P i f t = zwf P i g t
  | 0, _ => rfl
  | t + 1, h => by
    have h1 := zwf_congr (P := P) t (fun j h1 h2 => h j h1 (by omega))
    unfold zwf
    rw [h1, h (i + 1 + t) (by omega) (by omega)]
theorem zmxr_congr {f g : Nat → Int} : ∀ (m a : Nat), (∀ j, a ≤ j → j < a + m → f j = g j) → zmxr f a m = zmxr g a m
  | 0, _, _ => rfl
  | m + 1, a, h => by
    unfold zmxr
    rw [zmxr_congr m (a + 1) (fun j h1 h2 => h j (by omega) (by omega)), h a (by omega) (by omega)]
theorem zmxr_I {f : Nat → Int} {c : Int} (hc : 0 ≤ c) : ∀ (m a : Nat), (∀ j, a ≤ j → j < a + m → f j ≤ c) → 0 ≤ zmxr f a m ∧ zmxr f a m ≤ c
  | 0, _, _ => ⟨Int.le_refl _, hc⟩
  | m + 1, a, h => by
    have h1 := zmxr_I hc m (a + 1) (fun j h1 h2 => h j (by omega) (by omega))
    have h2 := h a (by omega) (by omega)
    unfold zmxr
    omega
theorem zIsW_I {P : zP} (hw : zWf P) {f : Nat → Int} {a : Nat} (h : zIsW P f a) : ∀ (k i : Nat), i + k = pn P → a ≤ i → i < pn P → 1 ≤ f i ∧ f i ≤ 12 * ((pn P : Int) - i)
  | 0, i, hk, _, hi => by omega
  | k + 1, i, hk, ha, hi => by
    rw [h i ha hi]
    refine zwf_I hw hi _ (by omega) (fun j h1 h2 => ?_)
    have h3 := zIsW_I hw h (pn P - j) j (by omega) (by omega) h2
    exact h3
  termination_by k => k
theorem sp_findWays (hB : zBk M P) (hw : zWf P) (hD : zDl M P (pn P)) : zf (zSh L) 4 kX1_findWays [zvr 9] M (fun v M1 => v = none ∧ (∀ a, a ≠ 9 → a ≠ 11 → M1 a = M a) ∧ (∀ b, b ≠ 3 → M1 9 b = M 9 b) ∧ zIsW P (M1 11) 0 ∧ M1 9 3 = zmxr (M1 11) 0 (pn P)) := by
  have h60 := hw.1
  have hn := hB.1
  refine zf_of rfl (Nat.le_of_ble_eq_true rfl) ?_
  repeat refine zr_t 15 rfl rfl rfl rfl ?_
  have loop : ∀ (k m : Nat) (o2 o3 o4 : Option zV) (x : Int) (M1 : zM), m + k = pn P → x = (pn P : Int) - 1 - m → (∀ a, a ≠ 9 → a ≠ 11 → M1 a = M a) → (∀ b, b ≠ 3 → M1 9 b = M 9 b) → zIsW P (M1 11) (pn P - m) → M1 9 3 = zmxr (M1 11) (pn P - m) m → zr (zSh L) 3 tX1_findWays 15 [some (zvr 9), some (zvi x), o2, o3, o4] [] M1 (fun v M1 => v = none ∧ (∀ a, a ≠ 9 → a ≠ 11 → M1 a = M a) ∧ (∀ b, b ≠ 3 → M1 9 b = M 9 b) ∧ zIsW P (M1 11) 0 ∧ M1 9 3 = zmxr (M1 11) 0 (pn P)) := by
    intro k
    induction k with
    | zero =>
      intro m o2 o3 o4 x M1 hm hx f1 f2 f3 f4
      have hm2 : m = pn P := by omega
      subst hm2
      rw [Nat.sub_self] at f3 f4
      repeat refine zr_s rfl rfl rfl ?_
      refine zr_zlt rfl (by omega) (fun h => ?_) (fun h => by omega)
      repeat refine zr_s rfl rfl rfl ?_
      exact zr_retv rfl (⟨rfl, f1, f2, f3, f4⟩)
    | succ k ih =>
      intro m o2 o3 o4 x M1 hm hx f1 f2 f3 f4
      have hB1 : zBk M1 P := zBk_of hB (fun a h1 h2 => f1 a (by omega) (by omega))
      have hD1 : zDl M1 P (pn P) := fun j hj i hi => by rw [f1 10 (by decide) (by decide)]; exact hD j hj i hi
      have hn1 := hB1.1
      obtain ⟨i, hi⟩ : ∃ i, i = pn P - 1 - m := ⟨_, rfl⟩
      have hx2 : x = (i : Int) := by omega
      have hin : i < pn P := by omega
      have hWI : ∀ j, i < j → j < pn P → 1 ≤ M1 11 j ∧ M1 11 j ≤ 12 * ((pn P : Int) - j) := fun j h1 h2 => zIsW_I hw f3 (pn P - j) j (by omega) (by omega) h2
      have hpl := zpl_le hw hin
      subst hx2
      repeat refine zr_s rfl rfl rfl ?_
      refine zr_zlt rfl (by omega) (fun h => by omega) (fun h => ?_)
      repeat refine zr_s rfl rfl rfl ?_
      refine zr_cr rfl rfl rfl (zf_mono (Nat.le_of_ble_eq_true rfl) (sp_latencyOf hB1 hw hin)) ?_
      repeat refine zr_t 32 rfl rfl rfl rfl ?_
      have inner : ∀ (r t : Nat) (o4 : Option zV), t + r = pn P - 1 - i → zr (zSh L) 3 tX1_findWays 32 [some (zvr 9), some (zvi i), some (zvi (zwf P i (M1 11) t)), some (zvi ((i + 1 + t : Nat) : Int)), o4] [] M1 (fun v M1 => v = none ∧ (∀ a, a ≠ 9 → a ≠ 11 → M1 a = M a) ∧ (∀ b, b ≠ 3 → M1 9 b = M 9 b) ∧ zIsW P (M1 11) 0 ∧ M1 9 3 = zmxr (M1 11) 0 (pn P)) := by
        intro r
        induction r with
        | zero =>
          intro t o4 ht
          have ht2 : t = pn P - 1 - i := by omega
          have hwI := zwf_I hw hin t (by omega) hWI
          have hmI := zmxr_I (f := M1 11) (c := 720) (by omega) m (pn P - m) (fun j h1 h2 => by have := hWI j (by omega) (by omega); omega)
          repeat refine zr_s rfl rfl rfl ?_
          refine zr_ige rfl (by omega) (by omega) (fun h => ?_) (fun h => by omega)
          repeat refine zr_s rfl rfl rfl ?_
          refine zr_ast (i) rfl rfl rfl (by omega) (by decide) ?_
          have q9 : zup M1 11 i (zwf P i (M1 11) t) 9 = M1 9 := zup_row (by decide)
          repeat refine zr_s rfl rfl rfl ?_
          rw [q9, f4]
          refine zr_cr rfl rfl rfl (zf_mono (Nat.le_of_ble_eq_true rfl) (sp_max (by omega) (by omega))) ?_
          repeat refine zr_s rfl rfl rfl ?_
          refine zr_b rfl rfl ?_
          refine ih (m + 1) _ _ _ _ _ (by omega) (by omega) (fun a h1 h2 => by rw [zup_row h1, zup_row h2]; exact f1 a h1 h2) (fun b hb => by rw [zup_off hb, q9]; exact f2 b hb) ?_ ?_
          · intro q h1 h2
            rw [zup_row (a := 11) (by decide)]
            have hc : ∀ j, q < j → j < pn P → zup M1 11 i (zwf P i (M1 11) t) 11 j = M1 11 j := fun j g1 g2 => zup_off (by omega)
            rw [zwf_congr (g := M1 11) _ (fun j g1 g2 => hc j g1 (by omega))]
            by_cases hq : q = i
            · subst hq
              rw [zup_at, ht2]
            · rw [zup_off hq]
              exact f3 q (by omega) h2
          · rw [zup_at, zup_row (a := 11) (by decide)]
            have e : pn P - (m + 1) = i := by omega
            rw [e]
            show _ = max (zmxr _ (i + 1) m) (zup M1 11 i (zwf P i (M1 11) t) 11 i)
            rw [zup_at, zmxr_congr (g := M1 11) m (i + 1) (fun j g1 g2 => zup_off (by omega)), show i + 1 = pn P - m by omega]
        | succ r ihr =>
          intro t o4 ht
          have hwI := zwf_I hw hin t (by omega) hWI
          have hz := zdc_I hw hin (j := i + 1 + t) (by omega)
          have hWj := hWI (i + 1 + t) (by omega) (by omega)
          repeat refine zr_s rfl rfl rfl ?_
          refine zr_ige rfl (by omega) (by omega) (fun h => by omega) (fun h => ?_)
          repeat refine zr_s rfl rfl rfl ?_
          refine zr_cr rfl rfl rfl (zf_mono (Nat.le_of_ble_eq_true rfl) (sp_between hw hD1 hin (j := i + 1 + t) (by omega))) ?_
          rw [if_pos (by omega)]
          repeat refine zr_s rfl rfl rfl ?_
          refine zr_ieq rfl (by omega) (by decide) (fun h3 => ?_) (fun h3 => ?_)
          · repeat refine zr_s rfl rfl rfl ?_
            refine zr_b rfl rfl ?_
            have e : zwf P i (M1 11) (t + 1) = zwf P i (M1 11) t := by
              show (if zdc P i (i + 1 + t) ≠ -3 then _ else _) = _
              rw [if_neg (fun z => z h3)]
            rw [← e]
            exact ihr (t + 1) _ (by omega)
          · repeat refine zr_s rfl rfl rfl ?_
            refine zr_ald (i + 1 + t) rfl rfl rfl (by omega) (by decide) ?_
            repeat refine zr_s rfl rfl rfl ?_
            refine zr_cr rfl rfl rfl (zf_mono (Nat.le_of_ble_eq_true rfl) (sp_max (by omega) (by omega))) ?_
            repeat refine zr_s rfl rfl rfl ?_
            refine zr_b rfl rfl ?_
            have e : zwf P i (M1 11) (t + 1) = max (zwf P i (M1 11) t) (zdc P i (i + 1 + t) + M1 11 (i + 1 + t)) := by
              show (if zdc P i (i + 1 + t) ≠ -3 then _ else _) = _
              rw [if_pos h3]
            rw [← e]
            exact ihr (t + 1) _ (by omega)
      exact inner (pn P - 1 - i) 0 _ (by omega)
  have e9 : ∀ a, a ≠ 9 → zup M 9 3 0 a = M a := fun a h => zup_row h
  refine loop (pn P) 0 _ _ _ _ (zup M 9 3 0) (by omega) ?_ (fun a h1 _ => e9 a h1) (fun b hb => zup_off hb) (fun i h1 h2 => by omega) zup_at
  rw [e9 2 (by decide), hn]
  omega
theorem sp_find (hB : zBk M P) (hw : zWf P) : zf (zSh L) 5 kX1_find [zvr 9] M (fun v M1 => v = none ∧ (∀ a, a < 9 ∨ 12 < a → M1 a = M a) ∧ zDl M1 P (pn P) ∧ zIsE P (M1 12) (pn P) ∧ zIsW P (M1 11) 0 ∧ M1 9 3 = zmxr (M1 11) 0 (pn P) ∧ M1 9 2 = zpairs P (pn P)) := by
  have h60 := hw.1
  have hn := hB.1
  refine zf_of rfl (Nat.le_of_ble_eq_true rfl) ?_
  repeat refine zr_t 7 rfl rfl rfl rfl ?_
  have loop : ∀ (k j : Nat) (N : zM), j + k = pn P → (∀ a, a < 9 ∨ 12 < a → N a = M a) → zDl N P j → zIsE P (N 12) j → (∀ i, i < j → 0 ≤ N 12 i ∧ N 12 i ≤ 12 * i) → N 9 2 = zpairs P j → zr (zSh L) 4 tX1_find 7 [some (zvr 9), some (zvi j)] [] N (fun v M1 => v = none ∧ (∀ a, a < 9 ∨ 12 < a → M1 a = M a) ∧ zDl M1 P (pn P) ∧ zIsE P (M1 12) (pn P) ∧ zIsW P (M1 11) 0 ∧ M1 9 3 = zmxr (M1 11) 0 (pn P) ∧ M1 9 2 = zpairs P (pn P)) := by
    intro k
    induction k with
    | zero =>
      intro j N hj f1 f2 f3 f4 f5
      have hj2 : j = pn P := by omega
      subst hj2
      have hB1 : zBk N P := zBk_of hB (fun a h1 h2 => f1 a (by omega))
      have hn1 := hB1.1
      repeat refine zr_s rfl rfl rfl ?_
      refine zr_ige rfl (by omega) (by omega) (fun h => ?_) (fun h => by omega)
      repeat refine zr_s rfl rfl rfl ?_
      refine zr_c rfl rfl rfl (zf_mono (Nat.le_of_ble_eq_true rfl) (sp_findWays hB1 hw f2)) (fun v M1 hv => ?_)
      obtain ⟨rfl, g1, g2, g3, g4⟩ := hv
      repeat refine zr_s rfl rfl rfl ?_
      have e10 := g1 10 (by decide) (by decide)
      have e12 := g1 12 (by decide) (by decide)
      exact zr_retv rfl (⟨rfl, fun a ha => by rw [g1 a (by omega) (by omega)]; exact f1 a ha, fun j hj i hi => by rw [e10]; exact f2 j hj i hi, by rw [e12]; exact f3, g3, g4, by rw [g2 2 (by decide)]; exact f5⟩)
    | succ k ih =>
      intro j N hj f1 f2 f3 f4 f5
      have hB1 : zBk N P := zBk_of hB (fun a h1 h2 => f1 a (by omega))
      have hn1 := hB1.1
      have hpr := zpairs_le P j
      have htr := ztr_lt (j := j) (by omega)
      repeat refine zr_s rfl rfl rfl ?_
      refine zr_ige rfl (by omega) (by omega) (fun h => by omega) (fun h => ?_)
      repeat refine zr_s rfl rfl rfl ?_
      refine zr_c rfl rfl rfl (zf_mono (Nat.le_of_ble_eq_true rfl) (sp_findDelaysOf hB1 hw (j := j) (by omega) (by omega))) (fun v M1 hv => ?_)
      obtain ⟨rfl, g1, g2, g3, g4, g5⟩ := hv
      have e12 := g1 12 (by decide) (by decide)
      have hD1 : zDl M1 P (j + 1) := by
        intro q hq i hi
        by_cases hqj : q = j
        · subst hqj
          exact g4 i hi
        · have := ztr_mono (i := q + 1) (j := j) (by omega)
          have h3 : ztr (q + 1) = ztr q + q := rfl
          rw [g5 (ztr q + i) (by omega)]
          exact f2 q (by omega) i hi
      have hle : 0 ≤ zlc (fun i => zdc P i j) (N 12) j ∧ zlc (fun i => zdc P i j) (N 12) j ≤ 12 * j := by
        by_cases hj0 : j = 0
        · subst hj0
          exact ⟨Int.le_refl _, Int.le_refl _⟩
        · have h3 := zlc_I (g := fun i => zdc P i j) (f := N 12) j (c := 12 * ((j : Int) - 1)) (by omega) (fun i hi => by
            have h4 := zdc_I hw (i := i) (j := j) (by omega) (by omega)
            have h5 := f4 i hi
            exact ⟨h4.1, h4.2, by omega⟩)
          omega
      repeat refine zr_s rfl rfl rfl ?_
      refine zr_cr rfl rfl rfl (zf_mono (Nat.le_of_ble_eq_true rfl) (sp_leastCycle hw hD1 (j := j) (by omega) (by omega) rfl (fun i hi => by rw [e12]; have := f4 i hi; omega) (fun i hi => by rw [e12]; have := f4 i hi; omega))) ?_
      rw [e12]
      refine zr_ast (j) rfl rfl rfl (by omega) (by decide) ?_
      repeat refine zr_s rfl rfl rfl ?_
      refine zr_b rfl rfl ?_
      refine ih (j + 1) _ (by omega) (fun a ha => by rw [zup_row (by omega), g1 a (by omega) (by omega)]; exact f1 a ha) (fun q hq i hi => by rw [zup_row (by decide)]; exact hD1 q hq i hi) ?_ ?_ ?_
      · intro q hq
        have hc : ∀ m, m ≤ j → zlc (fun i => zdc P i q) (zup M1 12 j (zlc (fun i => zdc P i j) (N 12) j) 12) m = zlc (fun i => zdc P i q) (N 12) m := by
          intro m
          induction m with
          | zero => intro _; rfl
          | succ m ihm =>
            intro hm
            unfold zlc
            rw [ihm (by omega), zup_off (by omega), e12]
        rw [hc q (by omega)]
        by_cases hqj : q = j
        · subst hqj
          exact zup_at
        · rw [zup_off hqj, e12]
          exact f3 q (by omega)
      · intro i hi
        by_cases hij : i = j
        · subst hij
          rw [zup_at]
          exact hle
        · rw [zup_off hij, e12]
          exact f4 i (by omega)
      · rw [zup_row (by decide), g2, f5]
        show _ = ((zpairs P j + zpc P j j : Nat) : Int)
        omega
  exact loop (pn P) 0 (zup M 9 2 0) (by omega) (fun a ha => zup_row (by omega)) (fun j hj => by omega) (fun j hj => by omega) (fun i hi => by omega) zup_at
end ZX
