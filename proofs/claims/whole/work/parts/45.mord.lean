/-! THE REFERENCE: least cycles, plans in order, lengths -/
/-- from 'from' on, behind the first m of the order -/
def ylr (P : zP) (ord : Nat → Nat) (f : Nat → Int) (j : Nat) (from' : Int) : Nat → Int
  | 0 => from'
  | m + 1 => if 0 ≤ zdm P (ord m) j then max (ylr P ord f j from' m) (f (ord m) + zdm P (ord m) j) else ylr P ord f j from' m
/-- y is the first cycle from x on with a unit free of those that the first k of the order take -/
def zLc (P : zP) (ord : Nat → Nat) (f : Nat → Int) (k : Nat) (x y : Int) : Prop := x ≤ y ∧ zct (fun p => f (ord p)) y k < pu P ∧ ∀ z, x ≤ z → z < y → pu P ≤ zct (fun p => f (ord p)) z k
theorem ylr_I {P : zP} (hw : zWf P) {ord : Nat → Nat} {f : Nat → Int} {j : Nat} {x b : Int} (hj : j < pn P) (hx : 0 ≤ x ∧ x ≤ b + 12) : ∀ m, (∀ p, p < m → ord p < pn P ∧ f (ord p) ≤ b) → x ≤ ylr P ord f j x m ∧ ylr P ord f j x m ≤ b + 12
  | 0, _ => by
    show x ≤ x ∧ x ≤ b + 12
    omega
  | m + 1, h => by
    have ih := ylr_I hw hj hx m (fun p hp => h p (by omega))
    obtain ⟨h1, h2⟩ := h m (by omega)
    have h3 := zdm_I hw h1 hj
    show x ≤ (if 0 ≤ zdm P (ord m) j then max (ylr P ord f j x m) (f (ord m) + zdm P (ord m) j) else ylr P ord f j x m) ∧ (if 0 ≤ zdm P (ord m) j then max (ylr P ord f j x m) (f (ord m) + zdm P (ord m) j) else ylr P ord f j x m) ≤ b + 12
    split <;> omega
theorem zct_none {w : Nat → Int} {c : Int} : ∀ m, (∀ i, i < m → w i ≠ c) → zct w c m = 0
  | 0, _ => rfl
  | m + 1, h => by
    show zct w c m + (if w m = c then 1 else 0) = 0
    rw [zct_none m (fun i hi => h i (by omega)), if_neg (h m (by omega))]
section ZX
variable {L : Nat} {M : zM} {P : zP} {ord : Nat → Nat} {c : Nat}
theorem sp_M_inCycle {m : Nat} {cy : Int} (hc : (zSh L)[c]? = some (.inl 60)) (hm : m ≤ 60) (hR : ∀ k, k < m → M 49 k = ord k ∧ ord k < 60 ∧ zI (M c (ord k))) (hcy : zI cy) : zf (zSh L) 1 kX8_inCycle [zvr 34, zvr c, zvi m, zvi cy] M (fun v M1 => v = some (.inl (zct (fun p => M c (ord p)) cy m)) ∧ M1 = M) := by
  have loop : ∀ (t k : Nat), k + t = m → zr (zSh L) 0 tX8_inCycle 6 [some (zvr 34), some (zvr c), some (zvi m), some (zvi cy), some (zvi (zct (fun p => M c (ord p)) cy k)), some (zvi k)] [] M (fun v M1 => v = some (.inl (zct (fun p => M c (ord p)) cy m)) ∧ M1 = M) := by
    intro t
    induction t with
    | zero =>
      intro k hk
      repeat refine zr_s rfl rfl rfl ?_
      refine zr_ige rfl (by omega) (by omega) (fun h => ?_) (fun h => by omega)
      repeat refine zr_s rfl rfl rfl ?_
      refine zr_ret rfl ⟨by rw [show k = m by omega], rfl⟩
    | succ t ih =>
      intro k hk
      obtain ⟨r1, r2, r3⟩ := hR k (by omega)
      have hle := zct_le (fun p => M c (ord p)) cy k
      have nxt : ∀ x : Int, x = zct (fun p => M c (ord p)) cy (k + 1) → zr (zSh L) 0 tX8_inCycle 34 [some (zvr 34), some (zvr c), some (zvi m), some (zvi cy), some (zvi (zct (fun p => M c (ord p)) cy k)), some (zvi k)] [zvi x] M (fun v M1 => v = some (.inl (zct (fun p => M c (ord p)) cy m)) ∧ M1 = M) := fun x hx => by
        repeat refine zr_s rfl rfl rfl ?_
        refine zr_b rfl rfl ?_
        rw [hx]
        exact ih (k + 1) (by omega)
      have cS : zct (fun p => M c (ord p)) cy (k + 1) = zct (fun p => M c (ord p)) cy k + if M c (ord k) = cy then 1 else 0 := rfl
      repeat refine zr_s rfl rfl rfl ?_
      refine zr_ige rfl (by omega) (by omega) (fun h => by omega) (fun h => ?_)
      repeat refine zr_s rfl rfl rfl ?_
      refine zr_ald (k) rfl rfl rfl (by omega) (by decide) ?_
      rw [r1]
      refine zr_ald (ord k) rfl hc rfl r2 (by decide) ?_
      repeat refine zr_s rfl rfl rfl ?_
      refine zr_ine rfl r3 hcy (fun h2 => ?_) (fun h2 => ?_)
      · repeat refine zr_t 34 rfl rfl rfl rfl ?_
        exact nxt _ (by rw [cS, if_neg h2]; rfl)
      · repeat refine zr_t 34 rfl rfl rfl rfl ?_
        exact nxt _ (by rw [cS, if_pos h2]; rfl)
  refine zf_of rfl (Nat.le_of_ble_eq_true rfl) ?_
  repeat refine zr_t 6 rfl rfl rfl rfl ?_
  exact loop m 0 (by omega)
theorem sp_M_leastCycle {k : Nat} {fr b : Int} (hB : zBm M P) (hw : zWf P) (hD : zDm M P) (hc : (zSh L)[c]? = some (.inl 60)) (hk : k < pn P) (hR : ∀ p, p ≤ k → M 49 p = ord p ∧ ord p < pn P) (hv : ∀ p, p < k → 0 ≤ M c (ord p) ∧ M c (ord p) ≤ b) (hb : 0 ≤ b ∧ b ≤ 100000) (hfr : 0 ≤ fr ∧ fr ≤ b) : zf (zSh L) 2 kX8_leastCycle [zvr 34, zvr c, zvi k, zvi fr] M (fun v M1 => ∃ y, v = some (.inl y) ∧ M1 = M ∧ zLc P ord (M c) k (ylr P ord (M c) (ord k) fr k) y ∧ y ≤ b + 12) := by
  have h60 := hw.1
  have hu := hw.2.1
  have hu8 := hw.2.2.1
  obtain ⟨rk, rn⟩ := hR k (Nat.le_refl _)
  have hlI : ∀ m, m ≤ k → fr ≤ ylr P ord (M c) (ord k) fr m ∧ ylr P ord (M c) (ord k) fr m ≤ b + 12 := fun m hm => ylr_I hw rn ⟨hfr.1, by omega⟩ m (fun p hp => ⟨(hR p (by omega)).2, (hv p (by omega)).2⟩)
  -- the search for a free unit
  have find : ∀ (t : Nat) (cy : Int) (o6 o7 : Option zV), (b + 12 - cy) ≤ t → ylr P ord (M c) (ord k) fr k ≤ cy → cy ≤ b + 12 → (∀ z, ylr P ord (M c) (ord k) fr k ≤ z → z < cy → pu P ≤ zct (fun p => M c (ord p)) z k) → zr (zSh L) 1 tX8_leastCycle 77 [some (zvr 34), some (zvr c), some (zvi k), some (zvi fr), some (zvi (ord k)), some (zvi cy), o6, o7] [] M (fun v M1 => ∃ y, v = some (.inl y) ∧ M1 = M ∧ zLc P ord (M c) k (ylr P ord (M c) (ord k) fr k) y ∧ y ≤ b + 12) := by
    intro t
    induction t with
    | zero =>
      intro cy o6 o7 ht h1 h2 h3
      have h0 := hlI k (Nat.le_refl _)
      repeat refine zr_s rfl rfl rfl ?_
      refine zr_cr rfl rfl rfl (zf_mono (Nat.le_of_ble_eq_true rfl) (sp_M_inCycle (ord := ord) hc (by omega) (fun p hp => by obtain ⟨q1, q2⟩ := hR p (by omega); obtain ⟨q3, q4⟩ := hv p hp; exact ⟨q1, by omega, by omega, by omega⟩) (by omega))) ?_
      repeat refine zr_s rfl rfl rfl ?_
      rw [hB.2.1]
      have hz : zct (fun p => M c (ord p)) cy k = 0 := zct_none k (fun p hp => by have := (hv p hp).2; show M c (ord p) ≠ cy; omega)
      refine zr_ilt rfl (by omega) (by omega) (fun h => ?_) (fun h => by omega)
      repeat refine zr_s rfl rfl rfl ?_
      exact zr_ret rfl ⟨cy, rfl, rfl, ⟨h1, by omega, h3⟩, h2⟩
    | succ t ih =>
      intro cy o6 o7 ht h1 h2 h3
      have h0 := hlI k (Nat.le_refl _)
      have hle := zct_le (fun p => M c (ord p)) cy k
      repeat refine zr_s rfl rfl rfl ?_
      refine zr_cr rfl rfl rfl (zf_mono (Nat.le_of_ble_eq_true rfl) (sp_M_inCycle (ord := ord) hc (by omega) (fun p hp => by obtain ⟨q1, q2⟩ := hR p (by omega); obtain ⟨q3, q4⟩ := hv p hp; exact ⟨q1, by omega, by omega, by omega⟩) (by omega))) ?_
      repeat refine zr_s rfl rfl rfl ?_
      rw [hB.2.1]
      refine zr_ilt rfl (by omega) (by omega) (fun h => ?_) (fun h => ?_)
      · repeat refine zr_s rfl rfl rfl ?_
        exact zr_ret rfl ⟨cy, rfl, rfl, ⟨h1, by omega, h3⟩, h2⟩
      · obtain ⟨p, hp, hpc⟩ := zct_ex (w := fun p => M c (ord p)) (c := cy) k (by omega)
        have hpb := (hv p hp).2
        have hpc : M c (ord p) = cy := hpc
        repeat refine zr_s rfl rfl rfl ?_
        refine zr_b rfl rfl ?_
        refine ih (cy + 1) _ _ (by omega) (by omega) (by omega) (fun z z1 z2 => ?_)
        by_cases hz : z = cy
        · rw [hz]
          omega
        · exact h3 z z1 (by omega)
  have loop : ∀ (t p : Nat) (o7 : Option zV), p + t = k → zr (zSh L) 1 tX8_leastCycle 14 [some (zvr 34), some (zvr c), some (zvi k), some (zvi fr), some (zvi (ord k)), some (zvi (ylr P ord (M c) (ord k) fr p)), some (zvi p), o7] [] M (fun v M1 => ∃ y, v = some (.inl y) ∧ M1 = M ∧ zLc P ord (M c) k (ylr P ord (M c) (ord k) fr k) y ∧ y ≤ b + 12) := by
    intro t
    induction t with
    | zero =>
      intro p o7 hp
      repeat refine zr_s rfl rfl rfl ?_
      refine zr_ige rfl (by omega) (by omega) (fun h => ?_) (fun h => by omega)
      have hpk : p = k := by omega
      subst hpk
      have h0 := hlI p (Nat.le_refl _)
      exact find (100012) _ _ _ (by omega) (Int.le_refl _) h0.2 (fun z z1 z2 => by omega)
    | succ t ih =>
      intro p o7 hp
      obtain ⟨r1, r2⟩ := hR p (by omega)
      have hvp := hv p (by omega)
      have hI := hlI p (by omega)
      have hzI := zdm_I hw r2 rn
      have lS : ylr P ord (M c) (ord k) fr (p + 1) = if 0 ≤ zdm P (ord p) (ord k) then max (ylr P ord (M c) (ord k) fr p) (M c (ord p) + zdm P (ord p) (ord k)) else ylr P ord (M c) (ord k) fr p := rfl
      have nxt : ∀ (x : Int) (o7 : Option zV), x = ylr P ord (M c) (ord k) fr (p + 1) → zr (zSh L) 1 tX8_leastCycle 71 [some (zvr 34), some (zvr c), some (zvi k), some (zvi fr), some (zvi (ord k)), some (zvi x), some (zvi p), o7] [] M (fun v M1 => ∃ y, v = some (.inl y) ∧ M1 = M ∧ zLc P ord (M c) k (ylr P ord (M c) (ord k) fr k) y ∧ y ≤ b + 12) := fun x o7 hx => by
        repeat refine zr_s rfl rfl rfl ?_
        refine zr_b rfl rfl ?_
        rw [hx]
        exact ih (p + 1) _ (by omega)
      repeat refine zr_s rfl rfl rfl ?_
      refine zr_ige rfl (by omega) (by omega) (fun h => by omega) (fun h => ?_)
      repeat refine zr_s rfl rfl rfl ?_
      refine zr_ald (p) rfl rfl rfl (by omega) (by decide) ?_
      rw [r1]
      repeat refine zr_s rfl rfl rfl ?_
      refine zr_cr rfl rfl rfl (zf_mono (Nat.le_of_ble_eq_true rfl) (sp_M_delayAt hw hD r2 rn)) ?_
      repeat refine zr_s rfl rfl rfl ?_
      refine zr_zlt rfl (by omega) (fun h2 => ?_) (fun h2 => ?_)
      · exact nxt _ _ (by rw [lS, if_neg (by omega)])
      rw [if_pos h2] at lS
      repeat refine zr_s rfl rfl rfl ?_
      refine zr_ald (p) rfl rfl rfl (by omega) (by decide) ?_
      rw [r1]
      refine zr_ald (ord p) rfl hc rfl (by omega) (by decide) ?_
      repeat refine zr_s rfl rfl rfl ?_
      refine zr_ile rfl (by omega) (by omega) (fun h3 => ?_) (fun h3 => ?_)
      · exact nxt _ _ (by rw [lS]; omega)
      · repeat refine zr_s rfl rfl rfl ?_
        refine zr_ald (p) rfl rfl rfl (by omega) (by decide) ?_
        rw [r1]
        refine zr_ald (ord p) rfl hc rfl (by omega) (by decide) ?_
        repeat refine zr_t 71 rfl rfl rfl rfl ?_
        exact nxt _ _ (by rw [lS]; omega)
  refine zf_of rfl (Nat.le_of_ble_eq_true rfl) ?_
  repeat refine zr_s rfl rfl rfl ?_
  refine zr_ald (k) rfl rfl rfl (by omega) (by decide) ?_
  rw [rk]
  repeat refine zr_t 14 rfl rfl rfl rfl ?_
  exact loop k 0 _ (by omega)
theorem sp_M_lengthOf (hB : zBm M P) (hw : zWf P) (hc : (zSh L)[c]? = some (.inl 60)) (hf : ∀ i, i < pn P → -3 ≤ M c i ∧ M c i ≤ 1000000) : zf (zSh L) 2 kX8_lengthOf [zvr 34, zvr c] M (fun v M1 => v = some (.inl (zlen P (M c) (pn P))) ∧ M1 = M) := by
  have h60 := hw.1
  have loop : ∀ (t i : Nat), i + t = pn P → zr (zSh L) 1 tX8_lengthOf 4 [some (zvr 34), some (zvr c), some (zvi (zlen P (M c) i)), some (zvi i)] [] M (fun v M1 => v = some (.inl (zlen P (M c) (pn P))) ∧ M1 = M) := by
    intro t
    induction t with
    | zero =>
      intro i hi
      repeat refine zr_s rfl rfl rfl ?_
      rw [hB.1]
      refine zr_ige rfl (by omega) (by omega) (fun h => ?_) (fun h => by omega)
      repeat refine zr_s rfl rfl rfl ?_
      refine zr_ret rfl ⟨by rw [show i = pn P by omega], rfl⟩
    | succ t ih =>
      intro i hi
      have hI := zlen_I hw hf i (by omega)
      have hfi := hf i (by omega)
      have hl := zpl_le hw (i := i) (by omega)
      have nxt : ∀ x : Int, x = zlen P (M c) (i + 1) → zr (zSh L) 1 tX8_lengthOf 38 [some (zvr 34), some (zvr c), some (zvi (zlen P (M c) i)), some (zvi i)] [zvi x] M (fun v M1 => v = some (.inl (zlen P (M c) (pn P))) ∧ M1 = M) := fun x hx => by
        repeat refine zr_s rfl rfl rfl ?_
        refine zr_b rfl rfl ?_
        rw [hx]
        exact ih (i + 1) (by omega)
      have lS : zlen P (M c) (i + 1) = max (zlen P (M c) i) (M c i + pl P i) := rfl
      repeat refine zr_s rfl rfl rfl ?_
      rw [hB.1]
      refine zr_ige rfl (by omega) (by omega) (fun h => by omega) (fun h => ?_)
      repeat refine zr_s rfl rfl rfl ?_
      refine zr_ald i rfl hc rfl (by omega) (by decide) ?_
      repeat refine zr_s rfl rfl rfl ?_
      refine zr_cr rfl rfl rfl (zf_mono (Nat.le_of_ble_eq_true rfl) (sp_M_latencyOf hB hw (by omega))) ?_
      repeat refine zr_s rfl rfl rfl ?_
      refine zr_ile rfl (by omega) (by omega) (fun h2 => ?_) (fun h2 => ?_)
      · repeat refine zr_t 38 rfl rfl rfl rfl ?_
        exact nxt _ (by rw [lS]; omega)
      · repeat refine zr_s rfl rfl rfl ?_
        refine zr_ald i rfl hc rfl (by omega) (by decide) ?_
        repeat refine zr_s rfl rfl rfl ?_
        refine zr_cr rfl rfl rfl (zf_mono (Nat.le_of_ble_eq_true rfl) (sp_M_latencyOf hB hw (by omega))) ?_
        repeat refine zr_t 38 rfl rfl rfl rfl ?_
        exact nxt _ (by rw [lS]; omega)
  refine zf_of rfl (Nat.le_of_ble_eq_true rfl) ?_
  repeat refine zr_t 4 rfl rfl rfl rfl ?_
  exact loop (pn P) 0 (by omega)
end ZX
