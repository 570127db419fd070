/-! THE REFERENCE'S CALLS: length, place, check, wrong, given, value -/
def ysm (f : Nat → Nat) : Nat → Nat
  | 0 => 0
  | m + 1 => ysm f m + f m
theorem ysm_congr {f g : Nat → Nat} : ∀ m, (∀ i, i < m → f i = g i) → ysm f m = ysm g m
  | 0, _ => rfl
  | m + 1, h => by
    show ysm f m + f m = ysm g m + g m
    rw [ysm_congr m (fun i hi => h i (by omega)), h m (by omega)]
theorem ysm_add (f g : Nat → Nat) : ∀ m, ysm (fun i => f i + g i) m = ysm f m + ysm g m
  | 0 => rfl
  | m + 1 => by
    show ysm (fun i => f i + g i) m + (f m + g m) = ysm f m + f m + (ysm g m + g m)
    rw [ysm_add f g m]
    omega
theorem ysm_cn (c : Nat → Bool) : ∀ m, ysm (fun i => if c i = true then 1 else 0) m = ycn c m
  | 0 => rfl
  | m + 1 => by
    show ysm (fun i => if c i = true then 1 else 0) m + _ = ycn c m + _
    rw [ysm_cn c m]
theorem ysm_0 : ∀ m, ysm (fun _ => 0) m = 0
  | 0 => rfl
  | m + 1 => ysm_0 m
theorem ysm_swap (c : Nat → Nat → Bool) (m : Nat) : ∀ n, ysm (fun i => ycn (fun j => c i j) n) m = ysm (fun j => ycn (fun i => c i j) m) n
  | 0 => ysm_0 m
  | n + 1 => by
    show ysm (fun i => ycn (fun j => c i j) n + (if c i n = true then 1 else 0)) m = ysm (fun j => ycn (fun i => c i j) m) n + ycn (fun i => c i n) m
    rw [ysm_add, ysm_swap c m n, ysm_cn]
def ydp (P : zP) (i j : Nat) : Bool := decide (i < j ∧ zdc P i j ≠ -3)
theorem ycn_f {c : Nat → Bool} : ∀ m, (∀ i, i < m → c i = false) → ycn c m = 0
  | 0, _ => rfl
  | m + 1, h => by
    show ycn c m + (if c m = true then 1 else 0) = 0
    rw [ycn_f m (fun i hi => h i (by omega)), h m (by omega)]
    rfl
theorem zpc_cn (P : zP) {j n : Nat} (hj : j ≤ n) : ∀ m, m ≤ j → zpc P j m = ycn (fun i => decide (j - m ≤ i) && ydp P i j) n
  | 0, _ => by
    rw [ycn_f]
    · rfl
    · intro i _
      unfold ydp
      rw [Bool.and_eq_false_iff, decide_eq_false_iff_not, decide_eq_false_iff_not]
      omega
  | m + 1, hm => by
    show zpc P j m + (if zdc P (j - 1 - m) j ≠ -3 then 1 else 0) = _
    rw [zpc_cn P hj m (by omega)]
    have h1 := ycn_add (c := fun i => decide (j - m ≤ i) && ydp P i j) (e := fun i => decide (i = j - 1 - m) && ydp P i j) (g := fun i => decide (j - (m + 1) ≤ i) && ydp P i j) n (fun i hi q1 q2 => by
      rw [Bool.and_eq_true, decide_eq_true_eq] at q1 q2
      omega) (fun i hi => by
      cases hd : ydp P i j
      · simp
      · rw [Bool.and_true, Bool.and_true, Bool.and_true, ← Bool.decide_or]
        congr 1
        rw [eq_iff_iff]
        omega)
    rw [← h1]
    congr 1
    by_cases hd : zdc P (j - 1 - m) j ≠ -3
    · rw [if_pos hd]
      have h2 := ycn_mono (c := fun i => decide (i = j - 1 - m) && ydp P i j) (e := fun i => decide (i = j - 1 - m)) n (fun i hi q => by rw [Bool.and_eq_true] at q; exact q.1)
      have h3 := ycn_mono (c := fun i => decide (i = j - 1 - m)) (e := fun i => decide (i = j - 1 - m) && ydp P i j) n (fun i hi q => by
        rw [Bool.and_eq_true]
        refine ⟨q, ?_⟩
        rw [decide_eq_true_eq] at q
        unfold ydp
        rw [decide_eq_true_eq, q]
        exact ⟨by omega, hd⟩)
      rw [ycn_one n (by omega)] at h2 h3
      omega
    · rw [if_neg hd, ycn_f]
      intro i _
      rw [Bool.and_eq_false_iff, decide_eq_false_iff_not]
      by_cases hi : i = j - 1 - m
      · right
        unfold ydp
        rw [decide_eq_false_iff_not, hi]
        exact fun z => hd z.2
      · exact Or.inl hi
theorem zpairs_cn (P : zP) {n : Nat} : ∀ m, m ≤ n → zpairs P m = ysm (fun j => ycn (fun i => ydp P i j) n) m
  | 0, _ => rfl
  | m + 1, hm => by
    show zpairs P m + zpc P m m = ysm (fun j => ycn (fun i => ydp P i j) n) m + ycn (fun i => ydp P i m) n
    rw [zpairs_cn P (n := n) m (by omega), zpc_cn P (n := n) (by omega) m (Nat.le_refl _)]
    congr 2
    funext i
    simp
theorem ypairs (P : zP) (n : Nat) : ysm (fun i => ycn (fun j => ydp P i j) n) n = zpairs P n := by
  rw [ysm_swap (fun i j => ydp P i j) n n, zpairs_cn P n (Nat.le_refl _)]
theorem ycn_le (c : Nat → Bool) : ∀ m, ycn c m ≤ m
  | 0 => Nat.le_refl _
  | m + 1 => by
    have := ycn_le c m
    show ycn c m + (if c m = true then 1 else 0) ≤ m + 1
    split <;> omega
theorem ysm_le {f : Nat → Nat} {b : Nat} : ∀ m, (∀ i, i < m → f i ≤ b) → ysm f m ≤ b * m
  | 0, _ => Nat.zero_le _
  | m + 1, h => by
    have h1 := ysm_le m (fun i hi => h i (by omega))
    have h2 := h m (by omega)
    show ysm f m + f m ≤ b * (m + 1)
    rw [Nat.mul_add]
    omega
theorem zup_self (M : zM) (i k : Nat) : zup M i k (M i k) = M := by
  funext a b
  unfold zup
  split
  · rename_i h
    rw [h.1, h.2]
  · rfl
/-- what was told -/
def yTl (kp : Bool) (M N : zM) (a b : Int) : Prop := (kp = true → N 34 20 = a ∧ N 34 21 = b) ∧ (∀ q, q ≠ 20 → q ≠ 21 → N 34 q = M 34 q) ∧ (∀ c, c ≠ 34 → N c = M c) ∧ (kp = false → N = M)
theorem yTl_tr {kp : Bool} {M N N2 : zM} {a b a2 b2 : Int} (h : yTl kp M N a b) (h2 : yTl kp N N2 a2 b2) : yTl kp M N2 a2 b2 := ⟨h2.1, fun q q1 q2 => by rw [h2.2.1 q q1 q2, h.2.1 q q1 q2], fun c hc => by rw [h2.2.2.1 c hc, h.2.2.1 c hc], fun hk => by rw [h2.2.2.2 hk, h.2.2.2 hk]⟩
section ZX
variable {L : Nat} {M : zM} {P : zP} {A : zA}
theorem sp_M_dependences (hB : zBm M P) (hw : zWf P) (hD : zDm M P) : zf (zSh L) 2 kX8_dependences [zvr 34] M (fun v M1 => v = some (.inl (zpairs P (pn P))) ∧ M1 = M) := by
  have h60 := hw.1
  have outer : ∀ (t i : Nat) (o3 : Option zV), i + t = pn P → zr (zSh L) 1 tX8_dependences 4 [some (zvr 34), some (zvi (ysm (fun i => ycn (fun j => ydp P i j) (pn P)) i)), some (zvi i), o3] [] M (fun v M1 => v = some (.inl (zpairs P (pn P))) ∧ M1 = M) := by
    intro t
    induction t with
    | zero =>
      intro i o3 hi
      repeat refine zr_s rfl rfl rfl ?_
      rw [hB.1]
      refine zr_ige rfl (by omega) (by omega) (fun h => ?_) (fun h => by omega)
      repeat refine zr_s rfl rfl rfl ?_
      refine zr_ret rfl ⟨by rw [show i = pn P by omega, ypairs], rfl⟩
    | succ t ih =>
      intro i o3 hi
      have hb := ysm_le (f := fun i => ycn (fun j => ydp P i j) (pn P)) (b := 60) i (fun q _ => by have := ycn_le (fun j => ydp P q j) (pn P); omega)
      repeat refine zr_s rfl rfl rfl ?_
      rw [hB.1]
      refine zr_ige rfl (by omega) (by omega) (fun h => by omega) (fun h => ?_)
      have inner : ∀ (u j : Nat), j + u = pn P → i < j → zr (zSh L) 1 tX8_dependences 16 [some (zvr 34), some (zvi (ysm (fun i => ycn (fun j => ydp P i j) (pn P)) i + ycn (fun j => ydp P i j) j : Nat)), some (zvi i), some (zvi j)] [] M (fun v M1 => v = some (.inl (zpairs P (pn P))) ∧ M1 = M) := by
        intro u
        induction u with
        | zero =>
          intro j hj hij
          repeat refine zr_s rfl rfl rfl ?_
          rw [hB.1]
          refine zr_ige rfl (by omega) (by omega) (fun h => ?_) (fun h => by omega)
          repeat refine zr_s rfl rfl rfl ?_
          refine zr_b rfl rfl ?_
          have hjn : j = pn P := by omega
          rw [hjn]
          exact ih (i + 1) _ (by omega)
        | succ u ihu =>
          intro j hj hij
          have hzI := zdm_I hw (i := i) (j := j) (by omega) (by omega)
          have hge := zdm_ge hw (i := i) (j := j) (by omega)
          have nxt : ∀ x : Int, x = ((ysm (fun i => ycn (fun j => ydp P i j) (pn P)) i + ycn (fun j => ydp P i j) (j + 1) : Nat) : Int) → zr (zSh L) 1 tX8_dependences 40 [some (zvr 34), some (zvi (ysm (fun i => ycn (fun j => ydp P i j) (pn P)) i + ycn (fun j => ydp P i j) j : Nat)), some (zvi i), some (zvi j)] [zvi x] M (fun v M1 => v = some (.inl (zpairs P (pn P))) ∧ M1 = M) := fun x hx => by
            repeat refine zr_s rfl rfl rfl ?_
            refine zr_b rfl rfl ?_
            rw [hx]
            exact ihu (j + 1) (by omega) (by omega)
          have cS : ycn (fun j => ydp P i j) (j + 1) = ycn (fun j => ydp P i j) j + if ydp P i j = true then 1 else 0 := rfl
          repeat refine zr_s rfl rfl rfl ?_
          rw [hB.1]
          refine zr_ige rfl (by omega) (by omega) (fun h => by omega) (fun h => ?_)
          repeat refine zr_s rfl rfl rfl ?_
          refine zr_cr rfl rfl rfl (zf_mono (Nat.le_of_ble_eq_true rfl) (sp_M_delayAt hw hD (by omega) (by omega))) ?_
          refine zr_zlt rfl (by omega) (fun h2 => ?_) (fun h2 => ?_)
          · repeat refine zr_t 40 rfl rfl rfl rfl ?_
            refine nxt _ ?_
            rw [cS, if_neg (fun z => by unfold ydp at z; rw [decide_eq_true_eq] at z; have := hge.mpr z; omega)]
            rfl
          · repeat refine zr_t 40 rfl rfl rfl rfl ?_
            refine nxt _ ?_
            rw [cS, if_pos (by unfold ydp; rw [decide_eq_true_eq]; exact hge.mp h2)]
            push_cast
            omega
      repeat refine zr_t 16 rfl rfl rfl rfl ?_
      have h0 : ycn (fun j => ydp P i j) (i + 1) = 0 := ycn_f _ (fun q hq => by unfold ydp; rw [decide_eq_false_iff_not]; omega)
      have h1 := inner (pn P - (i + 1)) (i + 1) (by omega) (by omega)
      rw [h0, Nat.add_zero] at h1
      exact h1
  refine zf_of rfl (Nat.le_of_ble_eq_true rfl) ?_
  repeat refine zr_t 4 rfl rfl rfl rfl ?_
  exact outer (pn P) 0 _ (by omega)
theorem sp_M_tell {kp : Bool} {x y : Int} : zf (zSh L) 1 kX8_tell [zvr 34, zvi (zb kp), zvi x, zvi y] M (fun v M1 => v = none ∧ yTl kp M M1 x y) := by
  refine zf_of rfl (Nat.le_of_ble_eq_true rfl) ?_
  repeat refine zr_s rfl rfl rfl ?_
  cases kp with
  | true =>
    rw [zb_t rfl]
    refine zr_zeq rfl (by decide) (fun h => by cases h) (fun _ => ?_)
    repeat refine zr_s rfl rfl rfl ?_
    refine zr_zeq rfl (by decide) (fun h => by cases h) (fun _ => ?_)
    repeat refine zr_s rfl rfl rfl ?_
    refine zr_retv rfl ⟨rfl, fun _ => ⟨by rw [zup_off (by decide), zup_at], zup_at⟩, fun q q1 q2 => by rw [zup_off q2, zup_off q1], fun c hc => by rw [zup_row hc, zup_row hc], fun h => by cases h⟩
  | false =>
    rw [zb_f rfl]
    refine zr_zeq rfl (by decide) (fun _ => ?_) (fun h => absurd rfl h)
    repeat refine zr_s rfl rfl rfl ?_
    rw [zup_self]
    refine zr_zeq rfl (by decide) (fun _ => ?_) (fun h => absurd rfl h)
    repeat refine zr_s rfl rfl rfl ?_
    rw [zup_self]
    have hT : yTl false M M x y := ⟨fun h => absurd h (by decide), fun _ _ _ => rfl, fun _ _ => rfl, fun _ => rfl⟩
    exact zr_retv rfl ⟨rfl, hT⟩
theorem sp_M_look {kp : Bool} (hB : zBm M P) (hw : zWf P) (hD : zDm M P) (hr : ∀ i, i < pn P → M 48 i = -3 ∨ (0 ≤ M 48 i ∧ M 48 i ≤ 1000)) : zf (zSh L) 2 kX8_look [zvr 34, zvi (zb kp)] M (fun v M1 => ∃ r a b : Int, v = some (.inl r) ∧ zVd P (M 48) r a b ∧ yTl kp M M1 a b) := by
  have h60 := hw.1
  have hu8 := hw.2.2.1
  refine zf_of rfl (Nat.le_of_ble_eq_true rfl) ?_
  repeat refine zr_s rfl rfl rfl ?_
  refine zr_c rfl rfl rfl (zf_mono (Nat.le_of_ble_eq_true rfl) (sp_M_tell (kp := kp) (x := -3) (y := -3))) (fun v M1 hv => ?_)
  obtain ⟨rfl, hT⟩ := hv
  have hn : M1 34 5 = pn P := by rw [hT.2.1 5 (by decide) (by decide)]; exact hB.1
  have hun : M1 34 7 = pu P := by rw [hT.2.1 7 (by decide) (by decide)]; exact hB.2.1
  have e48 : M1 48 = M 48 := hT.2.2.1 48 (by decide)
  have hDN : zDm M1 P := fun a b ha hb => by rw [hT.2.2.1 41 (by decide)]; exact hD a b ha hb
  -- too many in a cycle
  have third : ∀ (o2 o3 o4 : Option zV), (∀ i, i < pn P → M 48 i ≠ -3) → (∀ j, j < pn P → ∀ i, i < j → ¬ zbad P (M 48) i j) → zr (zSh L) 1 tX8_look 113 [some (zvr 34), some (zvi (zb kp)), o2, o3, o4] [] M1 (fun v M1 => ∃ r a b : Int, v = some (.inl r) ∧ zVd P (M 48) r a b ∧ yTl kp M M1 a b) := by
    intro o2 o3 o4 hall hnb
    have outer : ∀ (t c : Nat) (o3 o4 : Option zV), c + t = 1001 → (∀ z : Int, 0 ≤ z → z < c → zct (M 48) z (pn P) ≤ pu P) → zr (zSh L) 1 tX8_look 115 [some (zvr 34), some (zvi (zb kp)), some (zvi c), o3, o4] [] M1 (fun v M1 => ∃ r a b : Int, v = some (.inl r) ∧ zVd P (M 48) r a b ∧ yTl kp M M1 a b) := by
      intro t
      induction t with
      | zero =>
        intro c o3 o4 hc hE
        repeat refine zr_s rfl rfl rfl ?_
        refine zr_igt rfl (by omega) (by decide) (fun h => ?_) (fun h => by omega)
        repeat refine zr_s rfl rfl rfl ?_
        refine zr_ret rfl ⟨0, -3, -3, rfl, Or.inr (Or.inr (Or.inr ⟨rfl, hall, hnb, fun z hz => ?_, rfl, rfl⟩)), hT⟩
        by_cases hzc : z < c
        · exact hE z hz hzc
        · rw [zct_none _ (fun i hi => by have := hr i hi; have := hall i hi; omega)]
          omega
      | succ t ih =>
        intro c o3 o4 hc hE
        repeat refine zr_s rfl rfl rfl ?_
        refine zr_igt rfl (by omega) (by decide) (fun h => by omega) (fun h => ?_)
        have inner : ∀ (u i : Nat), i + u = pn P → zr (zSh L) 1 tX8_look 127 [some (zvr 34), some (zvi (zb kp)), some (zvi c), some (zvi (zct (M 48) c i)), some (zvi i)] [] M1 (fun v M1 => ∃ r a b : Int, v = some (.inl r) ∧ zVd P (M 48) r a b ∧ yTl kp M M1 a b) := by
          intro u
          induction u with
          | zero =>
            intro i hi
            have hin : i = pn P := by omega
            have hle := zct_le (M 48) c i
            repeat refine zr_s rfl rfl rfl ?_
            rw [hn]
            refine zr_ige rfl (by omega) (by omega) (fun h => ?_) (fun h => by omega)
            repeat refine zr_s rfl rfl rfl ?_
            rw [hun]
            refine zr_ile rfl (by omega) (by omega) (fun h2 => ?_) (fun h2 => ?_)
            · repeat refine zr_s rfl rfl rfl ?_
              refine zr_b rfl rfl ?_
              refine ih (c + 1) _ _ (by omega) (fun z z1 z2 => ?_)
              by_cases hzc : z = c
              · rw [hzc, ← hin]
                omega
              · exact hE z z1 (by omega)
            · repeat refine zr_s rfl rfl rfl ?_
              refine zr_c rfl rfl rfl (zf_mono (Nat.le_of_ble_eq_true rfl) (sp_M_tell (kp := kp) (x := c) (y := -3))) (fun v M2 hv => ?_)
              obtain ⟨rfl, hT2⟩ := hv
              repeat refine zr_s rfl rfl rfl ?_
              refine zr_ret rfl ⟨3, c, -3, rfl, Or.inr (Or.inr (Or.inl ⟨rfl, hall, hnb, rfl, by omega, by rw [← hin]; omega, fun z z1 z2 => hE z z1 z2⟩)), yTl_tr hT hT2⟩
          | succ u ihu =>
            intro i hi
            have hle := zct_le (M 48) c i
            have hri := hr i (by omega)
            have nxt : ∀ x : Int, x = zct (M 48) c (i + 1) → zr (zSh L) 1 tX8_look 154 [some (zvr 34), some (zvi (zb kp)), some (zvi c), some (zvi (zct (M 48) c i)), some (zvi i)] [zvi x] M1 (fun v M1 => ∃ r a b : Int, v = some (.inl r) ∧ zVd P (M 48) r a b ∧ yTl kp M M1 a b) := fun x hx => by
              repeat refine zr_s rfl rfl rfl ?_
              refine zr_b rfl rfl ?_
              rw [hx]
              exact ihu (i + 1) (by omega)
            have cS : zct (M 48) c (i + 1) = zct (M 48) c i + if M 48 i = c then 1 else 0 := rfl
            repeat refine zr_s rfl rfl rfl ?_
            rw [hn]
            refine zr_ige rfl (by omega) (by omega) (fun h => by omega) (fun h => ?_)
            repeat refine zr_s rfl rfl rfl ?_
            refine zr_ald (i) rfl rfl rfl (by omega) (by decide) ?_
            rw [e48]
            repeat refine zr_s rfl rfl rfl ?_
            refine zr_ine rfl (by omega) (by omega) (fun h2 => ?_) (fun h2 => ?_)
            · repeat refine zr_t 154 rfl rfl rfl rfl ?_
              exact nxt _ (by rw [cS, if_neg h2]; rfl)
            · repeat refine zr_t 154 rfl rfl rfl rfl ?_
              exact nxt _ (by rw [cS, if_pos h2]; rfl)
        repeat refine zr_t 127 rfl rfl rfl rfl ?_
        exact inner (pn P) 0 (by omega)
    repeat refine zr_t 115 rfl rfl rfl rfl ?_
    exact outer 1001 0 _ _ rfl (fun z z1 z2 => by omega)
  -- a delay that isn't kept
  have second : ∀ (o2 o3 o4 : Option zV), (∀ i, i < pn P → M 48 i ≠ -3) → zr (zSh L) 1 tX8_look 44 [some (zvr 34), some (zvi (zb kp)), o2, o3, o4] [] M1 (fun v M1 => ∃ r a b : Int, v = some (.inl r) ∧ zVd P (M 48) r a b ∧ yTl kp M M1 a b) := by
    intro o2 o3 o4 hall
    have outer : ∀ (t j : Nat) (o3 : Option zV), j + t = pn P → (∀ j2, j2 < j → ∀ i2, i2 < j2 → ¬ zbad P (M 48) i2 j2) → zr (zSh L) 1 tX8_look 46 [some (zvr 34), some (zvi (zb kp)), some (zvi j), o3, o4] [] M1 (fun v M1 => ∃ r a b : Int, v = some (.inl r) ∧ zVd P (M 48) r a b ∧ yTl kp M M1 a b) := by
      intro t
      induction t with
      | zero =>
        intro j o3 hj hE
        repeat refine zr_s rfl rfl rfl ?_
        rw [hn]
        refine zr_ige rfl (by omega) (by omega) (fun h => ?_) (fun h => by omega)
        exact third _ _ _ hall (fun j2 hj2 => hE j2 (by omega))
      | succ t ih =>
        intro j o3 hj hE
        repeat refine zr_s rfl rfl rfl ?_
        rw [hn]
        refine zr_ige rfl (by omega) (by omega) (fun h => by omega) (fun h => ?_)
        have inner : ∀ (u i : Nat), i + u = j → (∀ i2, i2 < i → ¬ zbad P (M 48) i2 j) → zr (zSh L) 1 tX8_look 56 [some (zvr 34), some (zvi (zb kp)), some (zvi j), some (zvi i), o4] [] M1 (fun v M1 => ∃ r a b : Int, v = some (.inl r) ∧ zVd P (M 48) r a b ∧ yTl kp M M1 a b) := by
          intro u
          induction u with
          | zero =>
            intro i hi hF
            repeat refine zr_s rfl rfl rfl ?_
            refine zr_ige rfl (by omega) (by omega) (fun h => ?_) (fun h => by omega)
            repeat refine zr_s rfl rfl rfl ?_
            refine zr_b rfl rfl ?_
            refine ih (j + 1) _ (by omega) (fun j2 hj2 i2 hi2 => ?_)
            by_cases hjj : j2 = j
            · subst hjj
              exact hF i2 (by omega)
            · exact hE j2 (by omega) i2 hi2
          | succ u ihu =>
            intro i hi hF
            have hzI := zdm_I hw (i := i) (j := j) (by omega) (by omega)
            have hge := zdm_ge hw (i := i) (j := j) (by omega)
            have hri := hr i (by omega)
            have hrj := hr j (by omega)
            have nxt : ¬ zbad P (M 48) i j → zr (zSh L) 1 tX8_look 101 [some (zvr 34), some (zvi (zb kp)), some (zvi j), some (zvi i), o4] [] M1 (fun v M1 => ∃ r a b : Int, v = some (.inl r) ∧ zVd P (M 48) r a b ∧ yTl kp M M1 a b) := fun hnb => by
              repeat refine zr_s rfl rfl rfl ?_
              refine zr_b rfl rfl ?_
              refine ihu (i + 1) (by omega) (fun i2 hi2 => ?_)
              by_cases hii : i2 = i
              · rw [hii]
                exact hnb
              · exact hF i2 (by omega)
            repeat refine zr_s rfl rfl rfl ?_
            refine zr_ige rfl (by omega) (by omega) (fun h => by omega) (fun h => ?_)
            repeat refine zr_s rfl rfl rfl ?_
            refine zr_cr rfl rfl rfl (zf_mono (Nat.le_of_ble_eq_true rfl) (sp_M_delayAt hw hDN (by omega) (by omega))) ?_
            refine zr_zlt rfl (by omega) (fun h2 => nxt (fun z => by have := hge.mpr ⟨by omega, z.1⟩; omega)) (fun h2 => ?_)
            have hdc := zdm_dc hw (i := i) (j := j) (by omega) h2
            repeat refine zr_s rfl rfl rfl ?_
            refine zr_ald (j) rfl rfl rfl (by omega) (by decide) ?_
            repeat refine zr_s rfl rfl rfl ?_
            refine zr_ald (i) rfl rfl rfl (by omega) (by decide) ?_
            repeat refine zr_s rfl rfl rfl ?_
            refine zr_cr rfl rfl rfl (zf_mono (Nat.le_of_ble_eq_true rfl) (sp_M_delayAt hw hDN (by omega) (by omega))) ?_
            repeat refine zr_s rfl rfl rfl ?_
            rw [e48, hdc]
            rw [hdc] at hzI
            refine zr_ige rfl (by omega) (by omega) (fun h3 => nxt (fun z => by have := z.2; omega)) (fun h3 => ?_)
            repeat refine zr_s rfl rfl rfl ?_
            refine zr_c rfl rfl rfl (zf_mono (Nat.le_of_ble_eq_true rfl) (sp_M_tell (kp := kp) (x := i) (y := j))) (fun v M2 hv => ?_)
            obtain ⟨rfl, hT2⟩ := hv
            repeat refine zr_s rfl rfl rfl ?_
            refine zr_ret rfl ⟨2, i, j, rfl, Or.inr (Or.inl ⟨rfl, hall, i, j, by omega, by omega, ⟨(hge.mp h2).2, h3⟩, hE, hF, rfl, rfl⟩), yTl_tr hT hT2⟩
        repeat refine zr_t 56 rfl rfl rfl rfl ?_
        exact inner j 0 (by omega) (fun i2 hi2 => by omega)
    repeat refine zr_t 46 rfl rfl rfl rfl ?_
    exact outer (pn P) 0 _ (by omega) (fun j2 hj2 => by omega)
  -- one without a cycle
  have first : ∀ (t i : Nat) (o3 o4 : Option zV), i + t = pn P → (∀ q, q < i → M 48 q ≠ -3) → zr (zSh L) 1 tX8_look 11 [some (zvr 34), some (zvi (zb kp)), some (zvi i), o3, o4] [] M1 (fun v M1 => ∃ r a b : Int, v = some (.inl r) ∧ zVd P (M 48) r a b ∧ yTl kp M M1 a b) := by
    intro t
    induction t with
    | zero =>
      intro i o3 o4 hi hE
      repeat refine zr_s rfl rfl rfl ?_
      rw [hn]
      refine zr_ige rfl (by omega) (by omega) (fun h => ?_) (fun h => by omega)
      exact second _ _ _ (fun q hq => hE q (by omega))
    | succ t ih =>
      intro i o3 o4 hi hE
      have hri := hr i (by omega)
      repeat refine zr_s rfl rfl rfl ?_
      rw [hn]
      refine zr_ige rfl (by omega) (by omega) (fun h => by omega) (fun h => ?_)
      repeat refine zr_s rfl rfl rfl ?_
      refine zr_ald (i) rfl rfl rfl (by omega) (by decide) ?_
      rw [e48]
      refine zr_zge rfl (by omega) (fun h2 => ?_) (fun h2 => ?_)
      · repeat refine zr_s rfl rfl rfl ?_
        refine zr_b rfl rfl ?_
        refine ih (i + 1) _ _ (by omega) (fun q hq => ?_)
        by_cases hqi : q = i
        · rw [hqi]
          omega
        · exact hE q (by omega)
      · repeat refine zr_s rfl rfl rfl ?_
        refine zr_c rfl rfl rfl (zf_mono (Nat.le_of_ble_eq_true rfl) (sp_M_tell (kp := kp) (x := i) (y := -3))) (fun v M2 hv => ?_)
        obtain ⟨rfl, hT2⟩ := hv
        repeat refine zr_s rfl rfl rfl ?_
        refine zr_ret rfl ⟨1, i, -3, rfl, Or.inl ⟨rfl, rfl, i, by omega, by omega, hE, rfl⟩, yTl_tr hT hT2⟩
  repeat refine zr_t 11 rfl rfl rfl rfl ?_
  exact first (pn P) 0 _ _ (by omega) (fun q hq => by omega)
end ZX
