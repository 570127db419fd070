/-! THE SHORTEST PLAN: what the class's search finds is the least length of all plans that keep delays and units -/
def ycn (c : Nat → Bool) : Nat → Nat
  | 0 => 0
  | m + 1 => ycn c m + if c m = true then 1 else 0
theorem ycn_mono {c e : Nat → Bool} : ∀ m, (∀ i, i < m → c i = true → e i = true) → ycn c m ≤ ycn e m
  | 0, _ => Nat.le_refl _
  | m + 1, h => by
    have ih := ycn_mono m (fun i hi => h i (by omega))
    have h2 := h m (by omega)
    show ycn c m + (if c m = true then 1 else 0) ≤ ycn e m + (if e m = true then 1 else 0)
    by_cases hc : c m = true
    · rw [if_pos hc, if_pos (h2 hc)]
      omega
    · rw [if_neg hc]
      omega
theorem ycn_add {c e g : Nat → Bool} : ∀ m, (∀ i, i < m → c i = true → e i = true → False) → (∀ i, i < m → g i = (c i || e i)) → ycn c m + ycn e m = ycn g m
  | 0, _, _ => rfl
  | m + 1, h, hg => by
    have ih := ycn_add m (fun i hi => h i (by omega)) (fun i hi => hg i (by omega))
    have h2 := h m (by omega)
    show ycn c m + (if c m = true then 1 else 0) + (ycn e m + (if e m = true then 1 else 0)) = ycn g m + (if g m = true then 1 else 0)
    rw [hg m (by omega)]
    cases hc : c m <;> cases he : e m
    · simp; omega
    · simp; omega
    · simp; omega
    · exact (h2 hc he).elim
theorem ycn_one {i : Nat} : ∀ m, i < m → ycn (fun x => decide (x = i)) m = 1
  | 0, h => by omega
  | m + 1, h => by
    show ycn (fun x => decide (x = i)) m + (if decide (m = i) = true then 1 else 0) = 1
    by_cases hm : m = i
    · have : ycn (fun x => decide (x = i)) m = 0 := by
        have h0 : ∀ k, k ≤ i → ycn (fun x => decide (x = i)) k = 0 := by
          intro k
          induction k with
          | zero => intro _; rfl
          | succ k ih =>
            intro hk
            show ycn (fun x => decide (x = i)) k + (if decide (k = i) = true then 1 else 0) = 0
            rw [ih (by omega), if_neg (by simp; omega)]
        exact h0 m (by omega)
      rw [this, if_pos (by simpa using hm)]
    · rw [ycn_one m (by omega), if_neg (by simpa using hm)]
theorem zct_cn (w : Nat → Int) (c : Int) : ∀ m, zct w c m = ycn (fun i => decide (w i = c)) m
  | 0 => rfl
  | m + 1 => by
    show zct w c m + (if w m = c then 1 else 0) = ycn (fun i => decide (w i = c)) m + (if decide (w m = c) = true then 1 else 0)
    rw [zct_cn w c m]
    simp
theorem zhm_cn (f W : Nat → Int) (l : Int) : ∀ m, zhm f W l m = ycn (fun i => decide (f i = -3 ∧ l ≤ W i)) m
  | 0 => rfl
  | m + 1 => by
    show zhm f W l m + (if f m = -3 ∧ l ≤ W m then 1 else 0) = ycn (fun i => decide (f i = -3 ∧ l ≤ W i)) m + (if decide (f m = -3 ∧ l ≤ W m) = true then 1 else 0)
    rw [zhm_cn f W l m]
    simp
/-- no more than u in each of T cycles -/
theorem ycn_up {w : Nat → Int} {u m : Nat} {c : Int} (hu : ∀ z, zct w z m ≤ u) : ∀ (T : Nat) (e : Nat → Bool), (∀ i, i < m → e i = true → c ≤ w i ∧ w i < c + T) → ycn e m ≤ u * T
  | 0, e, h => by
    have h0 : ycn e m ≤ ycn (fun _ => false) m := ycn_mono m (fun i hi he => by have := h i hi he; omega)
    have h1 : ∀ k, ycn (fun _ => false) k = 0 := by
      intro k
      induction k with
      | zero => rfl
      | succ k ih =>
        show ycn (fun _ => false) k + _ = 0
        rw [ih]
        rfl
    rw [h1] at h0
    omega
  | T + 1, e, h => by
    have h1 := ycn_up hu T (fun i => e i && decide (w i < c + T)) (fun i hi he => by
      rw [Bool.and_eq_true, decide_eq_true_eq] at he
      exact ⟨(h i hi he.1).1, he.2⟩)
    have h2 := hu (c + T)
    rw [zct_cn] at h2
    have h3 : ycn (fun i => e i && decide (w i < c + T)) m + ycn (fun i => e i && decide (w i = c + T)) m = ycn e m := by
      refine ycn_add m (fun i hi h4 h5 => ?_) (fun i hi => ?_)
      · rw [Bool.and_eq_true, decide_eq_true_eq] at h4 h5
        omega
      · cases he : e i
        · rfl
        · have h6 := h i hi he
          rw [Bool.true_and, Bool.true_and, ← Bool.decide_or]
          symm
          rw [decide_eq_true_eq]
          omega
    have h4 : ycn (fun i => e i && decide (w i = c + T)) m ≤ ycn (fun i => decide (w i = c + T)) m := ycn_mono m (fun i hi he => by
      rw [Bool.and_eq_true] at he
      exact he.2)
    rw [Nat.mul_add]
    omega
/-- no fewer than u in each of T cycles -/
theorem ycn_lo {w : Nat → Int} {u m : Nat} {c : Int} : ∀ (T : Nat), (∀ z, c ≤ z → z < c + T → u ≤ zct w z m) → u * T ≤ ycn (fun i => decide (c ≤ w i ∧ w i < c + T)) m
  | 0, _ => by rw [Nat.mul_zero]; omega
  | T + 1, h => by
    have h1 := ycn_lo T (fun z h1 h2 => h z h1 (by omega))
    have h2 := h (c + T) (by omega) (by omega)
    rw [zct_cn] at h2
    have h3 : ycn (fun i => decide (c ≤ w i ∧ w i < c + T)) m + ycn (fun i => decide (w i = c + T)) m = ycn (fun i => decide (c ≤ w i ∧ w i < c + (T + 1 : Nat))) m := by
      refine ycn_add m (fun i hi h4 h5 => ?_) (fun i hi => ?_)
      · rw [decide_eq_true_eq] at h4 h5
        omega
      · rw [← Bool.decide_or]
        congr 1
        rw [eq_iff_iff]
        omega
    rw [Nat.mul_add]
    omega
/-- a plan that keeps delays and units -/
def yVp (P : zP) (w : Nat → Int) : Prop := (∀ i, i < pn P → 0 ≤ w i) ∧ (∀ i j, i < j → j < pn P → zdc P i j ≠ -3 → w i + zdc P i j ≤ w j) ∧ ∀ c, zct w c (pn P) ≤ pu P
def yOpt (P : zP) (b : Int) : Prop := (∃ w, yVp P w ∧ zlen P w (pn P) = b) ∧ ∀ w, yVp P w → b ≤ zlen P w (pn P)
theorem yOpt_uniq {P : zP} {b b2 : Int} (h : yOpt P b) (h2 : yOpt P b2) : b = b2 := by
  obtain ⟨⟨w, w1, w2⟩, w3⟩ := h
  obtain ⟨⟨v, v1, v2⟩, v3⟩ := h2
  have := w3 v v1
  have := v3 w w1
  omega
theorem zlen_ge {P : zP} {f : Nat → Int} {i : Nat} : ∀ m, i < m → f i + pl P i ≤ zlen P f m
  | 0, h => by omega
  | m + 1, h => by
    show _ ≤ max (zlen P f m) (f m + pl P m)
    by_cases hm : i = m
    · subst hm
      omega
    · have := zlen_ge (P := P) (f := f) (i := i) m (by omega)
      omega
theorem zlen_mono {P : zP} {f g : Nat → Int} : ∀ m, (∀ i, i < m → f i ≤ g i) → zlen P f m ≤ zlen P g m
  | 0, _ => Int.le_refl _
  | m + 1, h => by
    have ih := zlen_mono (P := P) m (fun i hi => h i (by omega))
    have := h m (by omega)
    show max (zlen P f m) (f m + pl P m) ≤ max (zlen P g m) (g m + pl P m)
    omega
/-- a plan is no shorter than a cycle in it and the way from there -/
theorem zwf_le {P : zP} {w W : Nat → Int} {i : Nat} {x : Int} : ∀ t, w i + pl P i ≤ x → (∀ j, i < j → j ≤ i + t → zdc P i j ≠ -3 → w i + zdc P i j + W j ≤ x) → w i + zwf P i W t ≤ x
  | 0, h, _ => h
  | t + 1, h, h2 => by
    have ih := zwf_le (P := P) (w := w) (W := W) (i := i) (x := x) t h (fun j h3 h4 => h2 j h3 (by omega))
    show w i + (if zdc P i (i + 1 + t) ≠ -3 then max (zwf P i W t) (zdc P i (i + 1 + t) + W (i + 1 + t)) else zwf P i W t) ≤ x
    split
    · rename_i hd
      have := h2 (i + 1 + t) (by omega) (by omega) hd
      omega
    · exact ih
theorem yway_le {P : zP} {w W : Nat → Int} (hv : yVp P w) (hW : zIsW P W 0) : ∀ (k i : Nat), i + k = pn P → i < pn P → w i + W i ≤ zlen P w (pn P)
  | 0, i, hk, hi => by omega
  | k + 1, i, hk, hi => by
    rw [hW i (Nat.zero_le _) hi]
    refine zwf_le _ (zlen_ge _ hi) (fun j h1 h2 hd => ?_)
    have h3 := hv.2.1 i j h1 (by omega) hd
    have h4 := yway_le hv hW (pn P - j) j (by omega) (by omega)
    omega
  termination_by k => k
theorem zct_fu {f : Nat → Int} {i : Nat} {y z : Int} (hf : f i ≠ z) : ∀ m, zct (zfu f i y) z m = zct f z m + if i < m ∧ y = z then 1 else 0
  | 0 => by rw [if_neg (by omega)]; rfl
  | m + 1 => by
    show zct (zfu f i y) z m + (if zfu f i y m = z then 1 else 0) = zct f z m + (if f m = z then 1 else 0) + _
    rw [zct_fu hf m]
    by_cases hm : m = i
    · subst hm
      rw [zfu_at, if_neg (fun h => by omega), if_neg hf]
      by_cases hy : y = z
      · rw [if_pos hy, if_pos ⟨by omega, hy⟩]
      · rw [if_neg hy, if_neg (fun h => hy h.2)]
    · rw [zfu_off hm]
      (repeat' split) <;> omega
/-- a part of a plan, up to cycle c with q in it -/
def yPv (P : zP) (f : Nat → Int) (c q : Int) : Prop := (∀ i, i < pn P → f i = -3 ∨ (0 ≤ f i ∧ f i ≤ c)) ∧ (∀ i j, i < j → j < pn P → zdc P i j ≠ -3 → f j ≠ -3 → f i ≠ -3 ∧ f i + zdc P i j ≤ f j) ∧ (∀ z, 0 ≤ z → zct f z (pn P) ≤ pu P) ∧ (zct f c (pn P) : Int) = q ∧ 0 ≤ c
theorem yPv_0 (P : zP) : yPv P (fun _ => -3) 0 0 := by
  have h0 : ∀ z : Int, 0 ≤ z → ∀ m, zct (fun _ => -3) z m = 0 := fun z hz m => zct_none m (fun i _ => by show (-3 : Int) ≠ z; omega)
  refine ⟨fun i _ => Or.inl rfl, fun i j _ _ _ h => absurd rfl h, fun z hz => by rw [h0 z hz]; omega, by rw [h0 0 (Int.le_refl _)]; rfl, Int.le_refl _⟩
theorem yPv_put {P : zP} (hw : zWf P) {f : Nat → Int} {c q y q2 : Int} {i : Nat} (h : yPv P f c q) (hi : i < pn P) (hf : f i = -3) (hz : zwt P f i i = 0) (hy : zpf P f i ≤ y) (hq : (y = c ∧ q < pu P ∧ q2 = q + 1) ∨ (c < y ∧ q2 = 1)) : yPv P (zfu f i y) y q2 := by
  obtain ⟨h1, h2, h3, h4, h5⟩ := h
  have hu := hw.2.1
  have hcy : c ≤ y := by omega
  have hbig : c < y → zct f y (pn P) = 0 := fun hlt => zct_none _ (fun a ha => by have := h1 a ha; omega)
  have hc : ∀ z, 0 ≤ z → zct (zfu f i y) z (pn P) = zct f z (pn P) + if y = z then 1 else 0 := fun z hz => by
    rw [zct_fu (by omega)]
    by_cases hyz : y = z
    · rw [if_pos ⟨hi, hyz⟩, if_pos hyz]
    · rw [if_neg (fun h => hyz h.2), if_neg hyz]
  have hyq : (zct f y (pn P) : Int) + 1 = q2 ∧ zct f y (pn P) + 1 ≤ pu P := by
    rcases hq with ⟨e1, e2, e3⟩ | ⟨e1, e2⟩
    · subst e1
      omega
    · rw [hbig e1]
      omega
  refine ⟨fun a ha => ?_, fun a j haj hj hd hfj => ?_, fun z hz => ?_, ?_, by omega⟩
  · by_cases hai : a = i
    · rw [hai, zfu_at]
      omega
    · rw [zfu_off hai]
      have := h1 a ha
      omega
  · by_cases hji : j = i
    · subst hji
      rw [zfu_at, zfu_off (by omega)]
      have g1 := zwt_0' j hz a haj hd
      have g2 := h1 a (by omega)
      have g3 := (zlc_le (g := fun i => zdc P i j) (f := f) (c := y) j).mp hy
      exact ⟨g1, g3.2 a haj hd (by omega)⟩
    · rw [zfu_off hji] at hfj ⊢
      obtain ⟨g1, g2⟩ := h2 a j haj hj hd hfj
      have hai : a ≠ i := fun e => g1 (e ▸ hf)
      rw [zfu_off hai]
      exact ⟨g1, g2⟩
  · rw [hc z hz]
    by_cases hyz : y = z
    · rw [if_pos hyz, ← hyz]
      exact hyq.2
    · rw [if_neg hyz]
      exact h3 z hz
  · rw [hc y (by omega), if_pos rfl]
    push_cast
    exact hyq.1
theorem yPv_all {P : zP} {f : Nat → Int} {c q : Int} (h : yPv P f c q) (hall : ∀ i, i < pn P → f i ≠ -3) : yVp P f := by
  obtain ⟨h1, h2, h3, h4, h5⟩ := h
  refine ⟨fun i hi => by have := h1 i hi; have := hall i hi; omega, fun i j hij hj hd => (h2 i j hij hj hd (hall j hj)).2, fun z => ?_⟩
  by_cases hz : 0 ≤ z
  · exact h3 z hz
  · rw [zct_none _ (fun a ha => by have := h1 a ha; have := hall a ha; omega)]
    omega
theorem yls {P : zP} (hw : zWf P) (W : Nat → Int) : ∀ k, k ≤ pn P → yPv P (zls P W k).1 (zls P W k).2.2.1 (zls P W k).2.2.2
  | 0, _ => yPv_0 P
  | k + 1, hk => by
    have ih := yls hw W k (by omega)
    obtain ⟨l1, l2, l3, l4, l5, l6⟩ := zls_ok hw W k
    have hLk := zls_Lk hw W k (by omega)
    obtain ⟨b, b1, b2, b3, b4⟩ := zlb2_go (P := P) (W := W) (s := zls P W k) (by have := hLk.1; omega)
    have hnx : zls P W (k + 1) = zlnext P W k (zls P W k) := rfl
    rw [zlnext_eq, b1, if_neg (by omega), Int.toNat_natCast] at hnx
    rw [hnx]
    obtain ⟨f1, f2⟩ := zfree_iff.mp b3
    refine yPv_put hw ih b2 f1 f2 b4 ?_
    have hccd : zlcc P W (zls P W k) = if zlb1 P W (zls P W k) = -3 then max (zfst P (zls P W k).1 (pn P)) ((zls P W k).2.2.1 + 1) else (zls P W k).2.2.1 := rfl
    have hqq : zlqq P W (zls P W k) = if zlb1 P W (zls P W k) = -3 then 0 else (zls P W k).2.2.2 := rfl
    have hb1 : zlb1 P W (zls P W k) = if (zls P W k).2.2.2 < pu P then zbst P W (zls P W k).1 (zls P W k).2.2.1 (pn P) else -3 := rfl
    by_cases h1 : zlb1 P W (zls P W k) = -3
    · rw [if_pos h1] at hccd hqq
      exact Or.inr ⟨by omega, by rw [hqq]; rfl⟩
    · rw [if_neg h1] at hccd hqq
      refine Or.inl ⟨hccd, ?_, by rw [hqq]⟩
      apply Decidable.byContradiction
      intro z
      rw [if_neg z] at hb1
      exact h1 hb1
/-- what the search answers is the bound that it was given, or the length of a plan -/
theorem yfold {p : Int → Prop} {g : Int → Nat → Int} : ∀ (l : List Nat), (∀ b i, i ∈ l → p b → p (g b i)) → ∀ b, p b → p (l.foldl g b)
  | [], _, b, hb => hb
  | i :: l, h, b, hb => yfold l (fun b j hj => h b j (List.mem_cons_of_mem _ hj)) _ (h b i (List.mem_cons_self ..) hb)
theorem zcp_eq {f : Nat → Int} {n p : Nat} (h : zcp f n = p) (hp : n ≤ p) : ∀ i, i < n → f i ≠ -3 := zcp_all n (by have := zcp_le f n; omega)
theorem yta_val {P : zP} (hw : zWf P) {W : Nat → Int} : ∀ (d : Nat) (f : Nat → Int) (p : Nat) (c q b : Int), pn P ≤ p + d → zcp f (pn P) = p → yPv P f c q → (∃ w, yVp P w ∧ zlen P w (pn P) = b) → ∃ w, yVp P w ∧ zlen P w (pn P) = zta P W d f p c q b
  | 0, f, p, c, q, b, hd, hp, hP, hb => by
    have hv := yPv_all hP (zcp_eq hp (by omega))
    show ∃ w, yVp P w ∧ zlen P w (pn P) = min b (zlen P f (pn P))
    by_cases h : b ≤ zlen P f (pn P)
    · rw [show min b (zlen P f (pn P)) = b by omega]
      exact hb
    · exact ⟨f, hv, by omega⟩
  | d + 1, f, p, c, q, b, hd, hp, hP, hb => by
    rw [zta_s]
    split
    · rename_i hn
      have hv := yPv_all hP (zcp_eq hp hn)
      by_cases h : b ≤ zlen P f (pn P)
      · rw [show min b (zlen P f (pn P)) = b by omega]
        exact hb
      · exact ⟨f, hv, by omega⟩
    · split
      · exact hb
      · refine yfold (p := fun b => ∃ w, yVp P w ∧ zlen P w (pn P) = b) _ (fun b2 i hi hb2 => ?_) b hb
        have hi : i < pn P := List.mem_range.mp hi
        unfold ztg
        split
        · rename_i hc
          obtain ⟨h1, h2, h3, h4, h5⟩ := id hP
          have hq : q ≤ pu P := by have := h3 c h5; omega
          refine yta_val hw d _ _ _ _ _ (by omega) ?_ (yPv_put hw hP hi hc.1 hc.2 (by omega) ?_) hb2
          · rw [zcp_fu hc.1 (by have := zpf_nn P f i; omega), hp, if_pos hi]
          · by_cases hqu : q < pu P
            · rw [if_pos hqu]
              by_cases hm : max c (zpf P f i) = c
              · rw [if_pos hm]
                exact Or.inl ⟨hm, hqu, rfl⟩
              · rw [if_neg hm]
                exact Or.inr ⟨by omega, rfl⟩
            · rw [if_neg hqu, if_neg (by omega)]
              exact Or.inr ⟨by omega, rfl⟩
        · exact hb2
/-- a part of a plan that goes along with the plan w -/
def yCo (P : zP) (w f : Nat → Int) (p : Nat) (c q : Int) : Prop := (∀ i, i < pn P → f i = -3 ∨ (0 ≤ f i ∧ f i ≤ c ∧ f i ≤ w i)) ∧ (∀ i j, i < pn P → j < pn P → f i ≠ -3 → f j = -3 → w i < w j ∨ (w i = w j ∧ i < j)) ∧ (zct f c (pn P) : Int) = q ∧ zcp f (pn P) = p ∧ (∀ j, j < pn P → f j = -3 → c ≤ w j) ∧ q ≤ pu P ∧ 0 ≤ c
theorem ymin {p : Nat → Bool} {w : Nat → Int} : ∀ n, (∃ i, i < n ∧ p i = true) → ∃ i, i < n ∧ p i = true ∧ ∀ j, j < n → p j = true → w i < w j ∨ (w i = w j ∧ i ≤ j)
  | 0, h => by obtain ⟨i, hi, -⟩ := h; omega
  | n + 1, h => by
    by_cases hex : ∃ i, i < n ∧ p i = true
    · obtain ⟨i, h1, h2, h3⟩ := ymin (p := p) (w := w) n hex
      by_cases hn : p n = true ∧ w n < w i
      · refine ⟨n, by omega, hn.1, fun j hj hpj => ?_⟩
        by_cases hjn : j = n
        · subst hjn
          exact Or.inr ⟨rfl, Nat.le_refl _⟩
        · have := h3 j (by omega) hpj
          omega
      · refine ⟨i, by omega, h2, fun j hj hpj => ?_⟩
        by_cases hjn : j = n
        · subst hjn
          have : ¬ w j < w i := fun z => hn ⟨hpj, z⟩
          omega
        · exact h3 j (by omega) hpj
    · obtain ⟨i, h1, h2⟩ := h
      have hin : i = n := by
        apply Decidable.byContradiction
        intro z
        exact hex ⟨i, by omega, h2⟩
      subst hin
      refine ⟨i, by omega, h2, fun j hj hpj => ?_⟩
      by_cases hjn : j = i
      · exact Or.inr ⟨by rw [hjn], by omega⟩
      · exact absurd ⟨j, by omega, hpj⟩ hex
/-- a bound that cuts the search off bounds every plan -/
theorem yCo_hb {P : zP} (hw : zWf P) {w W f : Nat → Int} {p i : Nat} {c q : Int} (hv : yVp P w) (hW : zIsW P W 0) (h : yCo P w f p c q) (hi : i < pn P) (hf : f i = -3) : zhb P f W c q i ≤ zlen P w (pn P) := by
  obtain ⟨h1, h2, h3, h4, h5, h6, h7⟩ := h
  have hu := hw.2.1
  have hway := fun i hi => yway_le hv hW (pn P - i) i (by omega) hi
  have a1 : zpf P f i ≤ w i := by
    refine (zlc_le (g := fun a => zdc P a i) (f := f) (c := w i) i).mpr ⟨hv.1 i hi, fun a ha hd hfa => ?_⟩
    have := h1 a (by omega)
    have := hv.2.1 a i ha hi hd
    omega
  -- the last of the unplaced with such a way
  obtain ⟨x, x1, x2, x3⟩ := ymin (p := fun j => decide (f j = -3 ∧ W i ≤ W j)) (w := fun j => - w j) (pn P) ⟨i, hi, by simp [hf]⟩
  rw [decide_eq_true_eq] at x2
  have hm := zhm_cn f W (W i) (pn P)
  have a2 : c + (q + zhm f W (W i) (pn P) - 1) / pu P ≤ w x := by
    apply Decidable.byContradiction
    intro hlt
    have hcx := h5 x x1 x2.1
    obtain ⟨T, hT⟩ : ∃ T : Nat, w x - c + 1 = T := Int.eq_ofNat_of_zero_le (by omega)
    have hb := ycn_up (c := c) hv.2.2 T (fun j => decide (f j = c) || decide (f j = -3 ∧ W i ≤ W j)) (fun j hj he => by
      rw [Bool.or_eq_true, decide_eq_true_eq, decide_eq_true_eq] at he
      rcases he with he | he
      · have g1 := h1 j hj
        have g2 := h2 j x hj x1 (by omega) x2.1
        omega
      · have g1 := x3 j hj (by rw [decide_eq_true_eq]; exact he)
        have g2 := h5 j hj he.1
        omega)
    have hs := ycn_add (c := fun j => decide (f j = c)) (e := fun j => decide (f j = -3 ∧ W i ≤ W j)) (g := fun j => decide (f j = c) || decide (f j = -3 ∧ W i ≤ W j)) (pn P) (fun j hj e1 e2 => by
      rw [decide_eq_true_eq] at e1 e2
      omega) (fun _ _ => rfl)
    rw [zct_cn] at h3
    have hle : q + zhm f W (W i) (pn P) ≤ pu P * T := by
      rw [hm]
      have : ((ycn (fun j => decide (f j = c)) (pn P) + ycn (fun j => decide (f j = -3 ∧ W i ≤ W j)) (pn P) : Nat) : Int) ≤ ((pu P * T : Nat) : Int) := by rw [hs]; exact_mod_cast hb
      push_cast at this
      omega
    have hdiv : (q + zhm f W (W i) (pn P) - 1) / pu P < T := Int.ediv_lt_of_lt_mul (by omega) (by rw [Int.mul_comm]; omega)
    omega
  have b1 := hway i hi
  have b2 := hway x x1
  unfold zhb
  omega
theorem yta_le {P : zP} (hw : zWf P) {w W : Nat → Int} (hv : yVp P w) (hW : zIsW P W 0) : ∀ (d : Nat) (f : Nat → Int) (p : Nat) (c q b : Int), 0 ≤ b → pn P ≤ p + d → yCo P w f p c q → zta P W d f p c q b ≤ zlen P w (pn P)
  | 0, f, p, c, q, b, h0, hd, hC => by
    obtain ⟨h1, h2, h3, h4, h5, h6, h7⟩ := hC
    have hall := zcp_eq h4 (by omega)
    have := zlen_mono (P := P) (f := f) (g := w) (pn P) (fun i hi => by have := h1 i hi; have := hall i hi; omega)
    show min b (zlen P f (pn P)) ≤ _
    omega
  | d + 1, f, p, c, q, b, h0, hd, hC => by
    have hC0 := hC
    obtain ⟨h1, h2, h3, h4, h5, h6, h7⟩ := hC
    rw [zta_s]
    split
    · rename_i hn
      have hall := zcp_eq h4 hn
      have := zlen_mono (P := P) (f := f) (g := w) (pn P) (fun i hi => by have := h1 i hi; have := hall i hi; omega)
      omega
    · rename_i hn
      split
      · rename_i hh
        unfold zhl at hh
        rw [List.any_eq_true] at hh
        obtain ⟨i, hi, he⟩ := hh
        rw [Bool.and_eq_true, decide_eq_true_eq, decide_eq_true_eq] at he
        exact Int.le_trans he.2 (yCo_hb hw hv hW hC0 (List.mem_range.mp hi) he.1)
      · obtain ⟨i0, g1, g2, -⟩ := zcp_some (f := f) (pn P) (by omega)
        obtain ⟨i, x1, x2, x3⟩ := ymin (p := fun j => decide (f j = -3)) (w := w) (pn P) ⟨i0, g1, by simpa using g2⟩
        rw [decide_eq_true_eq] at x2
        have hu := hw.2.1
        have hz : zwt P f i i = 0 := zwt_z (fun a ha hd hfa => by
          have g3 := x3 a (by omega) (by simpa using hfa)
          have g4 := hv.2.1 a i ha x1 hd
          have g5 := zdc_nn hw ha x1 hd
          omega)
        have a1 : zpf P f i ≤ w i := by
          refine (zlc_le (g := fun a => zdc P a i) (f := f) (c := w i) i).mpr ⟨hv.1 i x1, fun a ha hd hfa => ?_⟩
          have := h1 a (by omega)
          have := hv.2.1 a i ha x1 hd
          omega
        have hci := h5 i x1 x2
        have a2 : ¬ q < pu P → c + 1 ≤ w i := fun hq => by
          apply Decidable.byContradiction
          intro hlt
          have hwc : w i = c := by omega
          have e1 := ycn_add (c := fun j => decide (f j = c)) (e := fun j => decide (j = i)) (g := fun j => decide (f j = c) || decide (j = i)) (pn P) (fun j hj q1 q2 => by
            rw [decide_eq_true_eq] at q1 q2
            subst q2
            omega) (fun _ _ => rfl)
          have e2 : ycn (fun j => decide (f j = c) || decide (j = i)) (pn P) ≤ ycn (fun j => decide (w j = c)) (pn P) := ycn_mono _ (fun j hj he => by
            rw [Bool.or_eq_true, decide_eq_true_eq, decide_eq_true_eq] at he
            rw [decide_eq_true_eq]
            rcases he with he | he
            · have q1 := h1 j hj
              have q2 := h2 j i hj x1 (by omega) x2
              omega
            · rw [he]
              exact hwc)
          have e3 := hv.2.2 c
          rw [zct_cn] at e3 h3
          rw [ycn_one _ x1] at e1
          omega
        -- the search with i first
        have hlast : ∀ b2 : Int, 0 ≤ b2 → ztg P W d f p c q b2 i ≤ zlen P w (pn P) := by
          intro b2 hb2
          unfold ztg
          rw [if_pos ⟨x2, hz⟩]
          have hyw : max (if q < pu P then c else c + 1) (zpf P f i) ≤ w i := by
            split
            · omega
            · rename_i hq
              have := a2 hq
              omega
          have hcy : c ≤ max (if q < pu P then c else c + 1) (zpf P f i) := by split <;> omega
          have hyq : max (if q < pu P then c else c + 1) (zpf P f i) = c → q < pu P := fun e => by
            apply Decidable.byContradiction
            intro hq
            rw [if_neg hq] at e
            omega
          generalize max (if q < pu P then c else c + 1) (zpf P f i) = y at *
          refine yta_le hw hv hW d _ _ _ _ _ hb2 (by omega) ⟨fun j hj => ?_, fun a j ha hj hfa hfj => ?_, ?_, ?_, fun j hj hfj => ?_, ?_, by omega⟩
          · by_cases hji : j = i
            · rw [hji, zfu_at]
              omega
            · rw [zfu_off hji]
              have := h1 j hj
              omega
          · have hji : j ≠ i := fun e => by
              rw [e, zfu_at] at hfj
              omega
            rw [zfu_off hji] at hfj
            by_cases hai : a = i
            · subst hai
              have := x3 j hj (by simpa using hfj)
              omega
            · rw [zfu_off hai] at hfa
              exact h2 a j ha hj hfa hfj
          · rw [zct_fu (by omega), if_pos ⟨x1, rfl⟩]
            by_cases hyc : y = c
            · rw [if_pos hyc, hyc]
              push_cast
              omega
            · rw [if_neg hyc, zct_none _ (fun a ha => by have := h1 a ha; omega)]
              rfl
          · rw [zcp_fu x2 (by omega), h4, if_pos x1]
          · have hji : j ≠ i := fun e => by
              rw [e, zfu_at] at hfj
              omega
            rw [zfu_off hji] at hfj
            have := x3 j hj (by simpa using hfj)
            omega
          · split
            · rename_i hyc
              have := hyq hyc
              omega
            · omega
        -- the loop meets i
        have hfold : ∀ (l : List Nat) (b2 : Int), 0 ≤ b2 → i ∈ l → l.foldl (ztg P W d f p c q) b2 ≤ zlen P w (pn P) := by
          intro l
          induction l with
          | nil => intro b2 _ hm; cases hm
          | cons j l ih =>
            intro b2 hb2 hm
            have hI := ztg_I P W d f p c q b2 j hb2
            rcases List.mem_cons.mp hm with hm | hm
            · subst hm
              have q1 := zfold_I (g := ztg P W d f p c q) (fun b i hb => ztg_I P W d f p c q b i hb) l (ztg P W d f p c q b2 i) hI.1
              exact Int.le_trans q1.2 (hlast b2 hb2)
            · exact ih _ hI.1 hm
        exact hfold _ b h0 (List.mem_range.mpr x1)
theorem yCo_0 {P : zP} {w : Nat → Int} (hv : yVp P w) : yCo P w (fun _ => -3) 0 0 0 := by
  have hc : ∀ m, zcp (fun _ => -3) m = 0 := by
    intro m
    induction m with
    | zero => rfl
    | succ m ih =>
      show zcp (fun _ => -3) m + (if (-3 : Int) ≠ -3 then 1 else 0) = 0
      rw [ih, if_neg (by decide)]
  refine ⟨fun _ _ => Or.inl rfl, fun _ _ _ _ h => absurd rfl h, ?_, hc _, fun j hj _ => hv.1 j hj, by omega, Int.le_refl _⟩
  rw [zct_none _ (fun a _ => by show (-3 : Int) ≠ 0; omega)]
  rfl
/-- what the class's search finds -/
theorem yshort {P : zP} (hw : zWf P) (h7 : pn P ≤ 7) {f : Nat → Int} (hW : zIsW P f 0) : yOpt P (zshort P) := by
  have hWz : ∀ i, i < pn P → f i = zway P i := fun i hi => zway_eq hW hi
  have hWw : zIsW P (zway P) 0 := fun i h1 h2 => by
    rw [← hWz i h2, hW i h1 h2]
    exact zwf_congr _ (fun j g1 g2 => hWz j (by omega))
  have hall := (zod_P hw (zway P)).2.2.2
  have hls := yPv_all (yls hw (zway P) (pn P) (Nat.le_refl _)) hall
  have hc : ∀ m, zcp (fun _ => -3) m = 0 := by
    intro m
    induction m with
    | zero => rfl
    | succ m ih =>
      show zcp (fun _ => -3) m + (if (-3 : Int) ≠ -3 then 1 else 0) = 0
      rw [ih, if_neg (by decide)]
  refine ⟨?_, fun w hv => ?_⟩
  · exact yta_val hw 7 _ 0 0 0 _ (by omega) (hc _) (yPv_0 P) ⟨_, hls, rfl⟩
  · exact yta_le hw hv hWw 7 _ 0 0 0 _ (zlen_nn P _ _) (by omega) (yCo_0 hv)
