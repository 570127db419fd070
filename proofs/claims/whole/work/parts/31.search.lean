/-! THE SEARCH FOR THE SHORTEST PLAN, as the class does it -/
theorem zdivn {x y : Int} (h0 : 0 ≤ x) (h1 : x < 2147483648) (hy : 1 ≤ y) (hy2 : y < 2147483648) : zdiv x y = x / y := by
  unfold zdiv
  have hne : Int32.ofInt y ≠ -1 := by
    intro h
    have h2 := congrArg Int32.toInt h
    have h3 : (Int32.ofInt y).toInt = y := zwid (by omega) hy2
    rw [h3] at h2
    have h4 : (-1 : Int32).toInt = -1 := by decide
    omega
  rw [Int32.toInt_div_of_ne_right _ _ hne]
  show (zw x).tdiv (zw y) = _
  rw [zwid (by omega) h1, zwid (by omega) hy2, Int.tdiv_eq_ediv_of_nonneg h0]
theorem zr_div {S : List zC} {d : Nat} {cd : List (Option zR)} {pc : Nat} {ls : List (Option zV)} {st : List zV} {M : zM} {Q : Option zV → zM → Prop} {x y : Int} {ra rb rt : Nat} (hc : cd[pc]? = some (some (.idiv, ra, rb, rt))) (h0 : 0 ≤ x ∧ x < 2147483648) (hy : 1 ≤ y ∧ y < 2147483648) (h : zr S d cd (pc + 1) ls (.inl (x / y) :: st) M Q) : zr S d cd pc ls (.inl y :: .inl x :: st) M Q := by
  rw [← zdivn h0.1 h0.2 hy.1 hy.2] at h
  refine zWp_step hc rfl ?_ h
  show (if zw y ≠ 0 then some (pc + 1, ls, .inl (zdiv x y) :: st, S, M) else none) = _
  rw [zwid (by omega) hy.2, if_pos (by omega)]
/-- how many without a cycle have at least this way -/
def zhm (f W : Nat → Int) (l : Int) : Nat → Nat
  | 0 => 0
  | i + 1 => zhm f W l i + if f i = -3 ∧ l ≤ W i then 1 else 0
/-- the least cycle that the last of them can have, and its way -/
def zhb (P : zP) (f W : Nat → Int) (c q : Int) (i : Nat) : Int := max (c + (q + zhm f W (W i) (pn P) - 1) / pu P) (zpf P f i) + W i
def zhl (P : zP) (f W : Nat → Int) (c q b : Int) (m : Nat) : Bool := (List.range m).any (fun i => decide (f i = -3) && decide (b ≤ zhb P f W c q i))
/-- the best length behind a search with d instructions more to place, p placed, from cycle c, q in it -/
def zta (P : zP) (W : Nat → Int) : Nat → (Nat → Int) → Nat → Int → Int → Int → Int
  | 0, f, _, _, _, b => min b (zlen P f (pn P))
  | d + 1, f, p, c, q, b => if pn P ≤ p then min b (zlen P f (pn P)) else if zhl P f W c q b (pn P) = true then b else
      (List.range (pn P)).foldl (fun b i => if f i = -3 ∧ zwt P f i i = 0 then
        let a : Int := max (if q < pu P then c else c + 1) (zpf P f i)
        zta P W d (zfu f i a) (p + 1) a (if a = c then q + 1 else 1) b else b) b
section ZX
variable {L : Nat} {M : zM} {P : zP} {f : Nat → Int}
theorem zhm_le (f W : Nat → Int) (l : Int) : ∀ m, zhm f W l m ≤ m
  | 0 => Nat.le_refl _
  | m + 1 => by
    have := zhm_le f W l m
    show zhm f W l m + (if f m = -3 ∧ l ≤ W m then 1 else 0) ≤ m + 1
    split <;> omega
theorem sp_howMany {l : Int} (hB : zBk M P) (hw : zWf P) (hf : ∀ i, i < pn P → M 23 i = f i ∧ -3 ≤ f i ∧ f i ≤ 100000) (hW : ∀ i, i < pn P → zI (M 11 i)) (hl : zI l) : zf (zSh L) 1 kX6_howManyWithWay [zvr 22, zvi l] M (fun v M1 => v = some (.inl (zhm f (M 11) l (pn P))) ∧ M1 = M) := by
  have h60 := hw.1
  have hn := hB.1
  refine zf_of rfl (Nat.le_of_ble_eq_true rfl) ?_
  repeat refine zr_t 4 rfl rfl rfl rfl ?_
  have loop : ∀ (k i : Nat), i + k = pn P → zr (zSh L) 0 tX6_howManyWithWay 4 [some (zvr 22), some (zvi l), some (zvi (zhm f (M 11) l i)), some (zvi i)] [] M (fun v M1 => v = some (.inl (zhm f (M 11) l (pn P))) ∧ M1 = M) := by
    intro k
    induction k with
    | zero =>
      intro i hi
      repeat refine zr_s rfl rfl rfl ?_
      refine zr_ige rfl (by omega) (by omega) (fun h => ?_) (fun h => by omega)
      repeat refine zr_s rfl rfl rfl ?_
      exact zr_ret rfl (⟨by rw [show i = pn P by omega], rfl⟩)
    | succ k ih =>
      intro i hi
      obtain ⟨e1, e2, e3⟩ := hf i (by omega)
      have e : ((zhm f (M 11) l (i + 1) : Nat) : Int) = zhm f (M 11) l i + if f i = -3 ∧ l ≤ M 11 i then 1 else 0 := by
        show ((zhm f (M 11) l i + (if f i = -3 ∧ l ≤ M 11 i then 1 else 0) : Nat) : Int) = _
        split <;> omega
      have h7 := ih (i + 1) (by omega)
      rw [e] at h7
      repeat refine zr_s rfl rfl rfl ?_
      refine zr_ige rfl (by omega) (by omega) (fun h => by omega) (fun h => ?_)
      repeat refine zr_s rfl rfl rfl ?_
      refine zr_ald (i) rfl rfl rfl (by omega) (by decide) ?_
      rw [e1]
      repeat refine zr_s rfl rfl rfl ?_
      refine zr_ine rfl (by omega) (by decide) (fun h => ?_) (fun h => ?_)
      · rw [if_neg (fun z => h z.1), Int.add_zero] at h7
        repeat refine zr_s rfl rfl rfl ?_
        refine zr_b rfl rfl ?_
        exact h7
      · repeat refine zr_s rfl rfl rfl ?_
        refine zr_ald (i) rfl rfl rfl (by omega) (by decide) ?_
        repeat refine zr_s rfl rfl rfl ?_
        refine zr_ilt rfl (hW i (by omega)) hl (fun h2 => ?_) (fun h2 => ?_)
        · rw [if_neg (fun z => by omega), Int.add_zero] at h7
          repeat refine zr_s rfl rfl rfl ?_
          refine zr_b rfl rfl ?_
          exact h7
        · rw [if_pos ⟨h, h2⟩] at h7
          repeat refine zr_s rfl rfl rfl ?_
          refine zr_b rfl rfl ?_
          exact h7
  exact loop (pn P) 0 (by omega)
theorem sp_isFreeS {j : Nat} (hw : zWf P) (hD : zDl M P (pn P)) (hf : ∀ i, i < pn P → M 23 i = f i ∧ -3 ≤ f i ∧ f i ≤ 100000) (hj : j < pn P) : zf (zSh L) 3 kX6_isFree [zvr 22, zvi j] M (fun v M1 => v = some (.inl (zb (decide (zwt P f j j = 0)))) ∧ M1 = M) := by
  have h60 := hw.1
  refine zf_of rfl (Nat.le_of_ble_eq_true rfl) ?_
  repeat refine zr_t 2 rfl rfl rfl rfl ?_
  have loop : ∀ (k i : Nat), i + k = j → zwt P f j i = 0 → zr (zSh L) 2 tX6_isFree 2 [some (zvr 22), some (zvi j), some (zvi i)] [] M (fun v M1 => v = some (.inl (zb (decide (zwt P f j j = 0)))) ∧ M1 = M) := by
    intro k
    induction k with
    | zero =>
      intro i hi h0
      repeat refine zr_s rfl rfl rfl ?_
      refine zr_ige rfl (by omega) (by omega) (fun h => ?_) (fun h => by omega)
      repeat refine zr_s rfl rfl rfl ?_
      rw [show i = j by omega] at h0
      exact zr_retz rfl (by omega) (⟨by rw [zb_t (by simp [h0])], rfl⟩)
    | succ k ih =>
      intro i hi h0
      obtain ⟨e1, e2, e3⟩ := hf i (by omega)
      have hz := zdc_I hw (i := i) (j := j) (by omega) hj
      have hmono : ∀ m, i + 1 ≤ m → zwt P f j (i + 1) ≤ zwt P f j m := by
        intro m hm
        induction m with
        | zero => omega
        | succ m ihm =>
          by_cases h1 : i = m
          · rw [h1]; exact Nat.le_refl _
          · exact Nat.le_trans (ihm (by omega)) (Nat.le_add_right _ _)
      have e : zwt P f j (i + 1) = zwt P f j i + if zdc P i j ≠ -3 ∧ f i = -3 then 1 else 0 := rfl
      repeat refine zr_s rfl rfl rfl ?_
      refine zr_ige rfl (by omega) (by omega) (fun h => by omega) (fun h => ?_)
      repeat refine zr_s rfl rfl rfl ?_
      refine zr_ald (i) rfl rfl rfl (by omega) (by decide) ?_
      rw [e1]
      repeat refine zr_s rfl rfl rfl ?_
      refine zr_ine rfl (by omega) (by decide) (fun h2 => ?_) (fun h2 => ?_)
      · repeat refine zr_s rfl rfl rfl ?_
        refine zr_b rfl rfl ?_
        exact ih (i + 1) (by omega) (by rw [e, if_neg (fun z => h2 z.2), h0])
      · repeat refine zr_s rfl rfl rfl ?_
        refine zr_cr rfl rfl rfl (zf_mono (Nat.le_of_ble_eq_true rfl) (sp_between hw hD (i := i) (by omega) hj)) ?_
        rw [if_pos (by omega)]
        repeat refine zr_s rfl rfl rfl ?_
        refine zr_ieq rfl (by omega) (by decide) (fun h3 => ?_) (fun h3 => ?_)
        · repeat refine zr_s rfl rfl rfl ?_
          refine zr_b rfl rfl ?_
          exact ih (i + 1) (by omega) (by rw [e, if_neg (fun z => z.1 h3), h0])
        · repeat refine zr_s rfl rfl rfl ?_
          have h5 := hmono j (by omega)
          rw [e, if_pos ⟨h3, h2⟩] at h5
          exact zr_retz rfl (by omega) (⟨by rw [zb_f (by simp; omega)], rfl⟩)
  exact loop j 0 (by omega) rfl
theorem zhm_self {f W : Nat → Int} {i : Nat} (hi : f i = -3) : ∀ m, i < m → 1 ≤ zhm f W (W i) m
  | 0, h => by omega
  | m + 1, h => by
    show 1 ≤ zhm f W (W i) m + (if f m = -3 ∧ W i ≤ W m then 1 else 0)
    by_cases hm : i = m
    · subst hm
      rw [if_pos ⟨hi, Int.le_refl _⟩]
      omega
    · have := zhm_self (W := W) hi m (by omega)
      omega
theorem zhl_f {P : zP} {f W : Nat → Int} {c q b : Int} {m : Nat} (h : zhl P f W c q b m = false) (h2 : ¬ (f m = -3 ∧ b ≤ zhb P f W c q m)) : zhl P f W c q b (m + 1) = false := by
  unfold zhl at h ⊢
  rw [List.range_succ, List.any_append, h]
  simp only [List.any_cons, List.any_nil, Bool.or_false, Bool.false_or, Bool.and_eq_false_iff, decide_eq_false_iff_not]
  by_cases h3 : f m = -3
  · exact Or.inr (fun z => h2 ⟨h3, z⟩)
  · exact Or.inl h3
theorem zhl_t {P : zP} {f W : Nat → Int} {c q b : Int} {m i : Nat} (hi : i < m) (h1 : f i = -3) (h2 : b ≤ zhb P f W c q i) : zhl P f W c q b m = true := by
  unfold zhl
  rw [List.any_eq_true]
  exact ⟨i, List.mem_range.mpr hi, by simp [h1, h2]⟩
theorem sp_isHopeless {c q b : Int} (hB : zBk M P) (hw : zWf P) (hD : zDl M P (pn P)) (hf : ∀ i, i < pn P → M 23 i = f i ∧ -3 ≤ f i ∧ f i ≤ 100000) (hW : ∀ i, i < pn P → 0 ≤ M 11 i ∧ M 11 i ≤ 1000) (hc : 0 ≤ c ∧ c ≤ 100000) (hq : 0 ≤ q ∧ q ≤ 100) (hb : M 22 3 = b ∧ zI b) : zf (zSh L) 3 kX6_isHopeless [zvr 22, zvi c, zvi q] M (fun v M1 => v = some (.inl (zb (zhl P f (M 11) c q b (pn P)))) ∧ M1 = M) := by
  have h60 := hw.1
  have hn := hB.1
  have hu := hB.2.1
  have hu1 := hw.2.1
  have hu8 := hw.2.2.1
  refine zf_of rfl (Nat.le_of_ble_eq_true rfl) ?_
  repeat refine zr_t 2 rfl rfl rfl rfl ?_
  have loop : ∀ (k i : Nat) (o4 o5 : Option zV), i + k = pn P → zhl P f (M 11) c q b i = false → zr (zSh L) 2 tX6_isHopeless 2 [some (zvr 22), some (zvi c), some (zvi q), some (zvi i), o4, o5] [] M (fun v M1 => v = some (.inl (zb (zhl P f (M 11) c q b (pn P)))) ∧ M1 = M) := by
    intro k
    induction k with
    | zero =>
      intro i o4 o5 hi h0
      repeat refine zr_s rfl rfl rfl ?_
      refine zr_ige rfl (by omega) (by omega) (fun h => ?_) (fun h => by omega)
      repeat refine zr_s rfl rfl rfl ?_
      rw [show i = pn P by omega] at h0
      exact zr_retz rfl (by omega) (⟨by rw [zb_f h0], rfl⟩)
    | succ k ih =>
      intro i o4 o5 hi h0
      obtain ⟨e1, e2, e3⟩ := hf i (by omega)
      have hWi := hW i (by omega)
      have hpf := zpf_I hw (f := f) (c := 100000) (by omega) (j := i) (by omega) (fun a ha => (hf a ha).2.2)
      have hm := zhm_le f (M 11) (M 11 i) (pn P)
      repeat refine zr_s rfl rfl rfl ?_
      refine zr_ige rfl (by omega) (by omega) (fun h => by omega) (fun h => ?_)
      repeat refine zr_s rfl rfl rfl ?_
      refine zr_ald (i) rfl rfl rfl (by omega) (by decide) ?_
      rw [e1]
      repeat refine zr_s rfl rfl rfl ?_
      refine zr_ine rfl (by omega) (by decide) (fun h2 => ?_) (fun h2 => ?_)
      · repeat refine zr_s rfl rfl rfl ?_
        refine zr_b rfl rfl ?_
        exact ih (i + 1) _ _ (by omega) (zhl_f h0 (fun z => h2 z.1))
      · have hm1 := zhm_self (W := M 11) h2 (pn P) (by omega)
        repeat refine zr_s rfl rfl rfl ?_
        refine zr_ald (i) rfl rfl rfl (by omega) (by decide) ?_
        refine zr_cr rfl rfl rfl (zf_mono (Nat.le_of_ble_eq_true rfl) (sp_howMany hB hw hf (fun a ha => by have := hW a ha; exact ⟨by omega, by omega⟩) (by omega))) ?_
        repeat refine zr_s rfl rfl rfl ?_
        rw [hu]
        refine zr_div rfl (by omega) (by omega) ?_
        have hdv : 0 ≤ (q + (zhm f (M 11) (M 11 i) (pn P) : Int) - 1) / (pu P : Int) ∧ (q + (zhm f (M 11) (M 11 i) (pn P) : Int) - 1) / (pu P : Int) ≤ 200 := by
          refine ⟨Int.ediv_nonneg (by omega) (by omega), ?_⟩
          have := Int.ediv_le_self (a := q + (zhm f (M 11) (M 11 i) (pn P) : Int) - 1) (pu P : Int) (by omega)
          omega
        have elc : zlc (fun a => zdc P a i) (M 23) i = zpf P f i := zlc_congr i (fun a ha _ => (hf a (by omega)).1)
        generalize hgen : (q + (zhm f (M 11) (M 11 i) (pn P) : Int) - 1) / (pu P : Int) = dv at hdv
        repeat refine zr_s rfl rfl rfl ?_
        refine zr_cr rfl rfl rfl (zf_mono (Nat.le_of_ble_eq_true rfl) (sp_leastCycle hw hD (j := i) (by omega) (by omega) rfl (fun a ha => by have := hf a (by omega); omega) (fun a ha => by have := hf a (by omega); omega))) ?_
        rw [elc]
        refine zr_cr rfl rfl rfl (zf_mono (Nat.le_of_ble_eq_true rfl) (sp_max (by omega) (by omega))) ?_
        repeat refine zr_s rfl rfl rfl ?_
        refine zr_ald (i) rfl rfl rfl (by omega) (by decide) ?_
        repeat refine zr_s rfl rfl rfl ?_
        rw [hb.1]
        have ehb : zhb P f (M 11) c q i = max (c + dv) (zpf P f i) + M 11 i := by
          unfold zhb
          rw [hgen]
        refine zr_ilt rfl (by omega) hb.2 (fun h3 => ?_) (fun h3 => ?_)
        · repeat refine zr_s rfl rfl rfl ?_
          refine zr_b rfl rfl ?_
          exact ih (i + 1) _ _ (by omega) (zhl_f h0 (fun z => by omega))
        · repeat refine zr_s rfl rfl rfl ?_
          exact zr_retz rfl (by omega) (⟨by rw [zb_t (zhl_t (i := i) (by omega) h2 (by omega))], rfl⟩)
  exact loop (pn P) 0 _ _ (by omega) rfl
end ZX
