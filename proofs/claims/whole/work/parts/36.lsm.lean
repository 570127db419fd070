/-! OF THE LIST PLAN: it never stands still, it places all, each one behind what it depends on -/
def zcp (f : Nat → Int) : Nat → Nat
  | 0 => 0
  | i + 1 => zcp f i + if f i ≠ -3 then 1 else 0
theorem zcp_le (f : Nat → Int) : ∀ m, zcp f m ≤ m
  | 0 => Nat.le_refl _
  | m + 1 => by
    have := zcp_le f m
    show zcp f m + (if f m ≠ -3 then 1 else 0) ≤ m + 1
    split <;> omega
theorem zcp_all {f : Nat → Int} : ∀ m, zcp f m = m → ∀ i, i < m → f i ≠ -3
  | 0, _, i, hi => by omega
  | m + 1, h, i, hi => by
    have h1 := zcp_le f m
    have h : zcp f m + (if f m ≠ -3 then 1 else 0) = m + 1 := h
    by_cases hm : f m ≠ -3
    · rw [if_pos hm] at h
      by_cases him : i = m
      · rw [him]; exact hm
      · exact zcp_all m (by omega) i (by omega)
    · rw [if_neg hm] at h
      omega
theorem zcp_some {f : Nat → Int} : ∀ m, zcp f m < m → ∃ i, i < m ∧ f i = -3 ∧ ∀ a, a < i → f a ≠ -3
  | 0, h => by omega
  | m + 1, h => by
    by_cases h1 : zcp f m < m
    · obtain ⟨i, g1, g2⟩ := zcp_some m h1
      exact ⟨i, by omega, g2⟩
    · have h2 := zcp_le f m
      have h3 := zcp_all (f := f) m (by omega)
      have h : zcp f m + (if f m ≠ -3 then 1 else 0) < m + 1 := h
      by_cases hm : f m ≠ -3
      · rw [if_pos hm] at h
        omega
      · exact ⟨m, by omega, Decidable.byContradiction hm, h3⟩
theorem zcp_fu {f : Nat → Int} {b : Nat} {x : Int} (hb : f b = -3) (hx : x ≠ -3) : ∀ m, zcp (zfu f b x) m = zcp f m + if b < m then 1 else 0
  | 0 => rfl
  | m + 1 => by
    have h := zcp_fu hb hx m
    show zcp (zfu f b x) m + (if zfu f b x m ≠ -3 then 1 else 0) = zcp f m + (if f m ≠ -3 then 1 else 0) + _
    by_cases hm : m = b
    · subst hm
      rw [zfu_at, if_pos hx, if_neg (fun z => z hb), h, if_neg (by omega), if_pos (by omega)]
    · rw [zfu_off hm, h]
      by_cases h1 : b < m
      · rw [if_pos h1, if_pos (show b < m + 1 by omega)]
        omega
      · rw [if_neg h1, if_neg (show ¬ b < m + 1 by omega)]
        omega
theorem zwt_0 {P : zP} {f : Nat → Int} {j : Nat} : ∀ m, (∀ a, a < m → f a ≠ -3) → zwt P f j m = 0
  | 0, _ => rfl
  | m + 1, h => by
    show zwt P f j m + (if zdc P m j ≠ -3 ∧ f m = -3 then 1 else 0) = 0
    rw [zwt_0 m (fun a ha => h a (by omega)), if_neg (fun z => h m (by omega) z.2)]
theorem zwt_0' {P : zP} {f : Nat → Int} {j : Nat} : ∀ m, zwt P f j m = 0 → ∀ a, a < m → zdc P a j ≠ -3 → f a ≠ -3
  | 0, _, a, ha, _ => by omega
  | m + 1, h, a, ha, hd => by
    have h : zwt P f j m + (if zdc P m j ≠ -3 ∧ f m = -3 then 1 else 0) = 0 := h
    by_cases ham : a = m
    · subst ham
      intro hf
      rw [if_pos ⟨hd, hf⟩] at h
      omega
    · exact zwt_0' m (by omega) a (by omega) hd
theorem zfree_iff {P : zP} {f : Nat → Int} {j : Nat} : zfree P f j = true ↔ f j = -3 ∧ zwt P f j j = 0 := by
  unfold zfree
  simp only [Bool.and_eq_true, decide_eq_true_eq]
theorem zlc_nn (g f : Nat → Int) : ∀ m, 0 ≤ zlc g f m
  | 0 => Int.le_refl _
  | m + 1 => by
    have := zlc_nn g f m
    unfold zlc
    split <;> omega
theorem zpf_nn (P : zP) (f : Nat → Int) (j : Nat) : 0 ≤ zpf P f j := zlc_nn _ _ _
theorem zfst_P {P : zP} {f : Nat → Int} : ∀ m, (zfst P f m = -3 ∧ ∀ i, i < m → zfree P f i = false) ∨ (0 ≤ zfst P f m ∧ (∃ i, i < m ∧ zfree P f i = true ∧ zpf P f i = zfst P f m) ∧ ∀ i, i < m → zfree P f i = true → zfst P f m ≤ zpf P f i)
  | 0 => Or.inl ⟨rfl, fun i hi => by omega⟩
  | m + 1 => by
    have hnn := zpf_nn P f m
    have ih := zfst_P (P := P) (f := f) m
    have e : zfst P f (m + 1) = if zfree P f m = true ∧ (zfst P f m = -3 ∨ zpf P f m < zfst P f m) then zpf P f m else zfst P f m := rfl
    by_cases hc : zfree P f m = true ∧ (zfst P f m = -3 ∨ zpf P f m < zfst P f m)
    · rw [e, if_pos hc]
      refine Or.inr ⟨hnn, ⟨m, by omega, hc.1, rfl⟩, fun i hi hf => ?_⟩
      by_cases him : i = m
      · rw [him]; exact Int.le_refl _
      · rcases ih with ⟨h1, h2⟩ | ⟨h1, -, h3⟩
        · rw [h2 i (by omega)] at hf
          cases hf
        · have := h3 i (by omega) hf
          rcases hc.2 with h | h <;> omega
    · rw [e, if_neg hc]
      rcases ih with ⟨h1, h2⟩ | ⟨h1, ⟨j, h2, h3, h4⟩, h5⟩
      · refine Or.inl ⟨h1, fun i hi => ?_⟩
        by_cases him : i = m
        · rw [him]
          cases hf : zfree P f m with
          | false => rfl
          | true => exact absurd ⟨hf, Or.inl h1⟩ hc
        · exact h2 i (by omega)
      · refine Or.inr ⟨h1, ⟨j, by omega, h3, h4⟩, fun i hi hf => ?_⟩
        by_cases him : i = m
        · rw [him] at hf ⊢
          apply Int.not_lt.mp
          intro hlt
          exact hc ⟨hf, Or.inr hlt⟩
        · exact h5 i (by omega) hf
/-- what the best is -/
theorem zbst_P {P : zP} {W f : Nat → Int} {c : Int} : ∀ m, (zbst P W f c m = -3 ∧ ∀ i, i < m → ¬ (zfree P f i = true ∧ zpf P f i ≤ c)) ∨ ∃ b : Nat, zbst P W f c m = b ∧ b < m ∧ zfree P f b = true ∧ zpf P f b ≤ c ∧ ∀ i, i < m → zfree P f i = true → zpf P f i ≤ c → W i < W b ∨ (W i = W b ∧ b ≤ i)
  | 0 => Or.inl ⟨rfl, fun i hi => by omega⟩
  | m + 1 => by
    have ih := zbst_P (P := P) (W := W) (f := f) (c := c) m
    have e : zbst P W f c (m + 1) = if zfree P f m = true ∧ zpf P f m ≤ c ∧ (zbst P W f c m = -3 ∨ W (zbst P W f c m).toNat < W m) then (m : Int) else zbst P W f c m := rfl
    by_cases hc : zfree P f m = true ∧ zpf P f m ≤ c ∧ (zbst P W f c m = -3 ∨ W (zbst P W f c m).toNat < W m)
    · rw [e, if_pos hc]
      refine Or.inr ⟨m, rfl, by omega, hc.1, hc.2.1, fun i hi h1 h2 => ?_⟩
      by_cases him : i = m
      · exact Or.inr ⟨by rw [him], by omega⟩
      · rcases ih with ⟨g1, g2⟩ | ⟨b, g1, g2, g3, g4, g5⟩
        · exact absurd ⟨h1, h2⟩ (g2 i (by omega))
        · have h3 := hc.2.2
          rw [g1, Int.toNat_natCast] at h3
          have h4 := g5 i (by omega) h1 h2
          rcases h3 with h3 | h3
          · omega
          · exact Or.inl (by omega)
    · rw [e, if_neg hc]
      rcases ih with ⟨g1, g2⟩ | ⟨b, g1, g2, g3, g4, g5⟩
      · refine Or.inl ⟨g1, fun i hi hh => ?_⟩
        by_cases him : i = m
        · rw [him] at hh
          exact hc ⟨hh.1, hh.2, Or.inl g1⟩
        · exact g2 i (by omega) hh
      · refine Or.inr ⟨b, g1, by omega, g3, g4, fun i hi h1 h2 => ?_⟩
        by_cases him : i = m
        · rw [him] at h1 h2 ⊢
          have h3 : ¬ W b < W m := fun z => hc ⟨h1, h2, Or.inr (by rw [g1, Int.toNat_natCast]; exact z)⟩
          by_cases h4 : W m = W b
          · exact Or.inr ⟨h4, by omega⟩
          · exact Or.inl (by omega)
        · exact g5 i (by omega) h1 h2
/-- what stands when k are placed -/
def zLk (P : zP) (k : Nat) (s : zLS) : Prop := zcp s.1 (pn P) = k ∧ (∀ q, q < k → ∃ b : Nat, s.2.1 q = b ∧ b < pn P ∧ s.1 b ≠ -3) ∧ (∀ i, i < pn P → s.1 i ≠ -3 → ∃ q, q < k ∧ s.2.1 q = i) ∧ ∀ q, q < k → ∀ a, a < (s.2.1 q).toNat → zdc P a (s.2.1 q).toNat ≠ -3 → ∃ q2, q2 < q ∧ s.2.1 q2 = a
theorem zlb2_go {P : zP} {W : Nat → Int} {s : zLS} (h : zcp s.1 (pn P) < pn P) : ∃ b : Nat, zlb2 P W s = b ∧ b < pn P ∧ zfree P s.1 b = true ∧ zpf P s.1 b ≤ zlcc P W s := by
  obtain ⟨i, g1, g2, g3⟩ := zcp_some (pn P) h
  have hfr : zfree P s.1 i = true := zfree_iff.mpr ⟨g2, zwt_0 i g3⟩
  unfold zlb2
  by_cases hb : zlb1 P W s = -3
  · rw [if_pos hb]
    have hcc : zlcc P W s = max (zfst P s.1 (pn P)) (s.2.2.1 + 1) := by unfold zlcc; rw [if_pos hb]
    rcases zbst_P (P := P) (W := W) (f := s.1) (c := zlcc P W s) (pn P) with ⟨h1, h2⟩ | ⟨b, h1, h2, h3, h4, -⟩
    · rcases zfst_P (P := P) (f := s.1) (pn P) with ⟨h3, h4⟩ | ⟨h3, ⟨j, h4, h5, h6⟩, -⟩
      · rw [h4 i g1] at hfr
        cases hfr
      · exact absurd ⟨h5, by omega⟩ (h2 j h4)
    · exact ⟨b, h1, h2, h3, h4⟩
  · rw [if_neg hb]
    have hcc : zlcc P W s = s.2.2.1 := by unfold zlcc; rw [if_neg hb]
    unfold zlb1 at hb ⊢
    by_cases hq : s.2.2.2 < pu P
    · rw [if_pos hq] at hb ⊢
      rcases zbst_I P W s.1 s.2.2.1 (pn P) with h1 | ⟨b, h1, h2, h3, h4⟩
      · exact absurd h1 hb
      · exact ⟨b, h1, h2, h3, by omega⟩
    · rw [if_neg hq] at hb
      exact absurd rfl hb
theorem zlcc_nn {P : zP} (hw : zWf P) {W : Nat → Int} {s : zLS} {k : Nat} (h : zlok2 P k s) : 0 ≤ zlcc P W s := by
  have := h.1
  unfold zlcc
  split <;> omega
theorem zls_Lk {P : zP} (hw : zWf P) (W : Nat → Int) : ∀ k, k ≤ pn P → zLk P k (zls P W k)
  | 0, _ => by
    refine ⟨?_, fun q hq => by omega, fun i hi h => absurd rfl h, fun q hq => by omega⟩
    have : ∀ m, zcp (fun _ => -3) m = 0 := by
      intro m
      induction m with
      | zero => rfl
      | succ m ih =>
        show zcp (fun _ => -3) m + (if (-3 : Int) ≠ -3 then 1 else 0) = 0
        rw [ih, if_neg (by decide)]
    exact this _
  | k + 1, hk => by
    obtain ⟨h1, h2, h3, h4⟩ := zls_Lk hw W k (by omega)
    obtain ⟨b, b1, b2, b3, b4⟩ := zlb2_go (P := P) (W := W) (s := zls P W k) (by omega)
    have hcc := zlcc_nn hw (W := W) (zls_ok hw W k)
    have hnx : zls P W (k + 1) = zlnext P W k (zls P W k) := rfl
    rw [zlnext_eq, b1, if_neg (by omega), Int.toNat_natCast] at hnx
    rw [hnx]
    obtain ⟨f1, f2⟩ := zfree_iff.mp b3
    have hord : ∀ q, q < k → zfu (zls P W k).2.1 k b q = (zls P W k).2.1 q := fun q hq => zfu_off (by omega)
    refine ⟨?_, fun q hq => ?_, fun i hi hf => ?_, fun q hq a ha hd => ?_⟩
    · show zcp (zfu (zls P W k).1 b (zlcc P W (zls P W k))) (pn P) = k + 1
      rw [zcp_fu f1 (by omega), h1, if_pos b2]
    · show ∃ x : Nat, zfu (zls P W k).2.1 k b q = x ∧ x < pn P ∧ zfu (zls P W k).1 b (zlcc P W (zls P W k)) x ≠ -3
      by_cases hqk : q = k
      · rw [hqk, zfu_at]
        exact ⟨b, rfl, b2, by rw [zfu_at]; omega⟩
      · rw [zfu_off hqk]
        obtain ⟨x, x1, x2, x3⟩ := h2 q (by omega)
        refine ⟨x, x1, x2, ?_⟩
        by_cases hxb : x = b
        · rw [hxb, zfu_at]; omega
        · rw [zfu_off hxb]; exact x3
    · have hf : zfu (zls P W k).1 b (zlcc P W (zls P W k)) i ≠ -3 := hf
      show ∃ q, q < k + 1 ∧ zfu (zls P W k).2.1 k b q = i
      by_cases hib : i = b
      · exact ⟨k, by omega, by rw [zfu_at, hib]⟩
      · rw [zfu_off hib] at hf
        obtain ⟨q, q1, q2⟩ := h3 i hi hf
        exact ⟨q, by omega, by rw [zfu_off (by omega)]; exact q2⟩
    · show ∃ q2, q2 < q ∧ zfu (zls P W k).2.1 k b q2 = a
      have ha : a < (zfu (zls P W k).2.1 k b q).toNat := ha
      have hd : zdc P a (zfu (zls P W k).2.1 k b q).toNat ≠ -3 := hd
      by_cases hqk : q = k
      · rw [hqk, zfu_at, Int.toNat_natCast] at ha hd
        obtain ⟨q2, q3, q4⟩ := h3 a (by omega) (zwt_0' b f2 a ha hd)
        exact ⟨q2, by omega, by rw [hord q2 q3]; exact q4⟩
      · rw [hord q (by omega)] at ha hd
        obtain ⟨q2, q3, q4⟩ := h4 q (by omega) a ha hd
        exact ⟨q2, q3, by rw [hord q2 (by omega)]; exact q4⟩
theorem zls_go {P : zP} (hw : zWf P) (W : Nat → Int) {k : Nat} (hk : k < pn P) : zlb2 P W (zls P W k) ≠ -3 := by
  have h := (zls_Lk hw W k (by omega)).1
  obtain ⟨b, b1, -⟩ := zlb2_go (P := P) (W := W) (s := zls P W k) (by omega)
  omega
/-- the order, as numbers -/
def zod (P : zP) (W : Nat → Int) (k : Nat) : Nat := ((zls P W (pn P)).2.1 k).toNat
theorem zod_P {P : zP} (hw : zWf P) (W : Nat → Int) : (∀ k, k < pn P → (zls P W (pn P)).2.1 k = zod P W k ∧ zod P W k < pn P) ∧ (∀ i, i < pn P → ∃ k, k < pn P ∧ zod P W k = i) ∧ zTop P (zod P W) ∧ ∀ i, i < pn P → (zls P W (pn P)).1 i ≠ -3 := by
  obtain ⟨h1, h2, h3, h4⟩ := zls_Lk hw W (pn P) (Nat.le_refl _)
  have hall := zcp_all (pn P) h1
  refine ⟨fun k hk => ?_, fun i hi => ?_, fun k hk a ha hd => ?_, hall⟩
  · obtain ⟨b, b1, b2, -⟩ := h2 k hk
    unfold zod
    rw [b1, Int.toNat_natCast]
    exact ⟨rfl, b2⟩
  · obtain ⟨q, q1, q2⟩ := h3 i hi (hall i hi)
    exact ⟨q, q1, by unfold zod; rw [q2, Int.toNat_natCast]⟩
  · obtain ⟨q, q1, q2⟩ := h4 k hk a ha hd
    exact ⟨q, q1, by unfold zod; rw [q2, Int.toNat_natCast]⟩
theorem zTop_id (P : zP) : zTop P (fun k => k) := fun _ _ a ha _ => ⟨a, ha, rfl⟩
