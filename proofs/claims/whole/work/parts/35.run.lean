/-! RUNS, as the class does them -/
/-- as it stands -/
def zst (P : zP) (s : zRS) : Nat → zRS
  | 0 => s
  | i + 1 => zcom P (zbeg P (zst P s i) i) i
def zcm (P : zP) (w : Nat → Int) (t : Int) (s : zRS) : Nat → zRS
  | 0 => s
  | i + 1 => if w i + pl P i = t then zcom P (zcm P w t s i) i else zcm P w t s i
def zbm (P : zP) (w : Nat → Int) (t : Int) (s : zRS) : Nat → zRS
  | 0 => s
  | i + 1 => if w i = t then zbeg P (zbm P w t s i) i else zbm P w t s i
/-- by a plan w: behind the cycles before t -/
def zrn (P : zP) (w : Nat → Int) (s : zRS) : Nat → zRS
  | 0 => s
  | t + 1 => zbm P w t (zcm P w t (zrn P w s t) (pn P)) (pn P)
theorem zcm_id {P : zP} {w : Nat → Int} {t : Int} {s : zRS} : ∀ m, (∀ i, i < m → w i + pl P i ≠ t) → zcm P w t s m = s
  | 0, _ => rfl
  | m + 1, h => by
    show (if w m + pl P m = t then _ else zcm P w t s m) = s
    rw [if_neg (h m (by omega))]
    exact zcm_id m (fun i hi => h i (by omega))
theorem zbm_id {P : zP} {w : Nat → Int} {t : Int} {s : zRS} : ∀ m, (∀ i, i < m → w i ≠ t) → zbm P w t s m = s
  | 0, _ => rfl
  | m + 1, h => by
    show (if w m = t then _ else zbm P w t s m) = s
    rw [if_neg (h m (by omega))]
    exact zbm_id m (fun i hi => h i (by omega))
theorem zrn_skip {P : zP} {w : Nat → Int} {s : zRS} {a : Nat} : ∀ b, a ≤ b → (∀ t : Nat, a ≤ t → t < b → ∀ i, i < pn P → w i ≠ t ∧ w i + pl P i ≠ t) → zrn P w s b = zrn P w s a
  | 0, h, _ => by rw [show a = 0 by omega]
  | b + 1, h, hk => by
    by_cases hab : a = b + 1
    · rw [hab]
    · show zbm P w b (zcm P w b (zrn P w s b) (pn P)) (pn P) = _
      have h1 := hk b (by omega) (by omega)
      rw [zcm_id _ (fun i hi => (h1 i hi).2), zbm_id _ (fun i hi => (h1 i hi).1)]
      exact zrn_skip b (by omega) (fun t h2 h3 => hk t h2 (by omega))
def zev (P : zP) (w : Nat → Int) (t : Int) : Nat → Nat
  | 0 => 0
  | i + 1 => zev P w t i + (if w i < t then 1 else 0) + (if w i + pl P i < t then 1 else 0)
theorem zev_le (P : zP) (w : Nat → Int) (t : Int) : ∀ m, zev P w t m ≤ 2 * m
  | 0 => Nat.le_refl _
  | m + 1 => by
    have := zev_le P w t m
    show zev P w t m + (if w m < t then 1 else 0) + (if w m + pl P m < t then 1 else 0) ≤ 2 * (m + 1)
    split <;> split <;> omega
theorem zev_lt {P : zP} {w : Nat → Int} {t : Int} {j : Nat} (hj : t ≤ w j ∨ t ≤ w j + pl P j) : ∀ m, j < m → zev P w t m < 2 * m
  | 0, h => by omega
  | m + 1, h => by
    have h1 := zev_le P w t m
    show zev P w t m + (if w m < t then 1 else 0) + (if w m + pl P m < t then 1 else 0) < 2 * (m + 1)
    by_cases hjm : j = m
    · subst hjm
      rcases hj with hj | hj
      · rw [if_neg (by omega)]
        split <;> omega
      · rw [if_neg (show ¬ (w j + pl P j < t) by omega)]
        split <;> omega
    · have h2 := zev_lt hj m (by omega)
      split <;> split <;> omega
theorem zev_mono {P : zP} {w : Nat → Int} {t t2 : Int} (ht : t ≤ t2) : ∀ m, zev P w t m ≤ zev P w t2 m
  | 0 => Nat.le_refl _
  | m + 1 => by
    have h1 := zev_mono (P := P) (w := w) ht m
    show zev P w t m + (if w m < t then 1 else 0) + (if w m + pl P m < t then 1 else 0) ≤ zev P w t2 m + (if w m < t2 then 1 else 0) + (if w m + pl P m < t2 then 1 else 0)
    split <;> split <;> split <;> split <;> omega
theorem zev_strict {P : zP} {w : Nat → Int} {t t2 : Int} (ht : t < t2) {j : Nat} (hj : w j = t ∨ w j + pl P j = t) : ∀ m, j < m → zev P w t m < zev P w t2 m
  | 0, h => by omega
  | m + 1, h => by
    have h1 := zev_mono (P := P) (w := w) (Int.le_of_lt ht) m
    show zev P w t m + (if w m < t then 1 else 0) + (if w m + pl P m < t then 1 else 0) < zev P w t2 m + (if w m < t2 then 1 else 0) + (if w m + pl P m < t2 then 1 else 0)
    by_cases hjm : j = m
    · subst hjm
      split <;> split <;> split <;> split <;> omega
    · have h2 := zev_strict ht hj m (by omega)
      split <;> split <;> split <;> split <;> omega
def zNx (P : zP) (w : Nat → Int) (t x : Int) (m : Nat) : Prop := (x = -3 ∧ ∀ i, i < m → w i ≤ t ∧ w i + pl P i ≤ t) ∨ (t < x ∧ (∃ i, i < m ∧ (w i = x ∨ w i + pl P i = x)) ∧ ∀ i, i < m → (w i ≤ t ∨ x ≤ w i) ∧ (w i + pl P i ≤ t ∨ x ≤ w i + pl P i))
section ZX
variable {L : Nat} {M : zM} {P : zP} {s : zRS} {B : Nat → Prop} {c : Nat}
theorem sp_runAsItStands (hB : zBk M P) (hw : zWf P) : zf (zSh L) 3 kX3_runAsItStands [zvr 26] M (fun v M1 => v = none ∧ (∀ a, a < 29 ∨ 32 < a → M1 a = M a) ∧ (∀ k, k < 16 → M1 29 k = (zst P (M 27, M 28, fun _ => 0, fun _ => 0) (pn P)).1 k) ∧ ∀ k, k < 64 → M1 30 k = (zst P (M 27, M 28, fun _ => 0, fun _ => 0) (pn P)).2.1 k) := by
  have h60 := hw.1
  have hn := hB.1
  refine zf_of rfl (Nat.le_of_ble_eq_true rfl) ?_
  repeat refine zr_s rfl rfl rfl ?_
  refine zr_c rfl rfl rfl (zf_mono (Nat.le_of_ble_eq_true rfl) (sp_startAnew)) (fun v M1 hv => ?_)
  obtain ⟨rfl, g1, g2, g3⟩ := hv
  repeat refine zr_t 6 rfl rfl rfl rfl ?_
  have loop : ∀ (k i : Nat) (N : zM), i + k = pn P → (∀ a, a < 29 ∨ 32 < a → N a = M a) → zRu N P (zst P (M 27, M 28, fun _ => 0, fun _ => 0) i) (fun _ => False) → zr (zSh L) 2 tX3_runAsItStands 6 [some (zvr 26), some (zvi i)] [] N (fun v M1 => v = none ∧ (∀ a, a < 29 ∨ 32 < a → M1 a = M a) ∧ (∀ k, k < 16 → M1 29 k = (zst P (M 27, M 28, fun _ => 0, fun _ => 0) (pn P)).1 k) ∧ ∀ k, k < 64 → M1 30 k = (zst P (M 27, M 28, fun _ => 0, fun _ => 0) (pn P)).2.1 k) := by
    intro k
    induction k with
    | zero =>
      intro i N hi f1 f2
      have hi2 : i = pn P := by omega
      subst hi2
      have hB1 : zBk N P := zBk_of hB (fun a h1 h2 => f1 a (by omega))
      have hn1 := hB1.1
      repeat refine zr_s rfl rfl rfl ?_
      refine zr_ige rfl (by omega) (by omega) (fun h => ?_) (fun h => by omega)
      repeat refine zr_s rfl rfl rfl ?_
      exact zr_retv rfl (⟨rfl, f1, f2.1, f2.2.1⟩)
    | succ k ih =>
      intro i N hi f1 f2
      have hB1 : zBk N P := zBk_of hB (fun a h1 h2 => f1 a (by omega))
      have hn1 := hB1.1
      repeat refine zr_s rfl rfl rfl ?_
      refine zr_ige rfl (by omega) (by omega) (fun h => by omega) (fun h => ?_)
      repeat refine zr_s rfl rfl rfl ?_
      refine zr_c rfl rfl rfl (zf_mono (Nat.le_of_ble_eq_true rfl) (sp_begin hB1 hw (i := i) (by omega) f2)) (fun v M1 hv => ?_)
      obtain ⟨rfl, q1, q2⟩ := hv
      have hB2 : zBk M1 P := zBk_of hB1 (fun a h1 h2 => q1 a (by omega) (by omega))
      repeat refine zr_s rfl rfl rfl ?_
      refine zr_c rfl rfl rfl (zf_mono (Nat.le_of_ble_eq_true rfl) (sp_come hB2 hw (i := i) (by omega) q2 (Or.inr rfl))) (fun v M2 hv => ?_)
      obtain ⟨rfl, p1, p2⟩ := hv
      repeat refine zr_s rfl rfl rfl ?_
      refine zr_b rfl rfl ?_
      refine ih (i + 1) M2 (by omega) (fun a ha => by rw [p1 a (by omega) (by omega), q1 a (by omega) (by omega)]; exact f1 a ha) ⟨p2.1, p2.2.1, fun j hj hF => hF.elim⟩
  exact loop (pn P) 0 M1 (by omega) (fun a ha => g1 a (by omega) (by omega)) ⟨g2, g3, fun j hj hF => hF.elim⟩
theorem sp_comeIn {t : Int} (hB : zBk M P) (hw : zWf P) (hc : (zSh L)[c]? = some (.inl 60)) (hc2 : c < 29) (hr : ∀ i, i < pn P → 0 ≤ M c i ∧ M c i ≤ 1000) (ht : 0 ≤ t ∧ t ≤ 2000) (hR : zRu M P s B) (hBt : ∀ i, i < pn P → M c i < t → B i) : zf (zSh L) 2 kX3_comeIn [zvr 26, zvi t, zvr c] M (fun v M1 => v = none ∧ (∀ a, a ≠ 29 → a ≠ 30 → M1 a = M a) ∧ zRu M1 P (zcm P (M c) t s (pn P)) B) := by
  have h60 := hw.1
  have hn := hB.1
  refine zf_of rfl (Nat.le_of_ble_eq_true rfl) ?_
  repeat refine zr_t 2 rfl rfl rfl rfl ?_
  have loop : ∀ (k i : Nat) (N : zM), i + k = pn P → (∀ a, a ≠ 29 → a ≠ 30 → N a = M a) → zRu N P (zcm P (M c) t s i) B → zr (zSh L) 1 tX3_comeIn 2 [some (zvr 26), some (zvi t), some (zvr c), some (zvi i)] [] N (fun v M1 => v = none ∧ (∀ a, a ≠ 29 → a ≠ 30 → M1 a = M a) ∧ zRu M1 P (zcm P (M c) t s (pn P)) B) := by
    intro k
    induction k with
    | zero =>
      intro i N hi f1 f2
      have hi2 : i = pn P := by omega
      subst hi2
      have hB1 : zBk N P := zBk_of hB (fun a h1 h2 => f1 a (by omega) (by omega))
      have hn1 := hB1.1
      repeat refine zr_s rfl rfl rfl ?_
      refine zr_ige rfl (by omega) (by omega) (fun h => ?_) (fun h => by omega)
      repeat refine zr_s rfl rfl rfl ?_
      exact zr_retv rfl (⟨rfl, f1, f2⟩)
    | succ k ih =>
      intro i N hi f1 f2
      have hB1 : zBk N P := zBk_of hB (fun a h1 h2 => f1 a (by omega) (by omega))
      have hn1 := hB1.1
      have hri := hr i (by omega)
      have hp := zpl_le hw (i := i) (by omega)
      have e : zcm P (M c) t s (i + 1) = if M c i + pl P i = t then zcom P (zcm P (M c) t s i) i else zcm P (M c) t s i := rfl
      repeat refine zr_s rfl rfl rfl ?_
      refine zr_ige rfl (by omega) (by omega) (fun h => by omega) (fun h => ?_)
      repeat refine zr_s rfl rfl rfl ?_
      refine zr_ald i rfl hc rfl (by omega) (by decide) ?_
      rw [f1 c (by omega) (by omega)]
      repeat refine zr_s rfl rfl rfl ?_
      refine zr_cr rfl rfl rfl (zf_mono (Nat.le_of_ble_eq_true rfl) (sp_latencyOf hB1 hw (i := i) (by omega))) ?_
      repeat refine zr_s rfl rfl rfl ?_
      refine zr_ine rfl (by omega) (by omega) (fun h3 => ?_) (fun h3 => ?_)
      · repeat refine zr_s rfl rfl rfl ?_
        refine zr_b rfl rfl ?_
        exact ih (i + 1) N (by omega) f1 (by rw [e, if_neg h3]; exact f2)
      · repeat refine zr_s rfl rfl rfl ?_
        refine zr_c rfl rfl rfl (zf_mono (Nat.le_of_ble_eq_true rfl) (sp_come hB1 hw (i := i) (by omega) f2 (hBt i (by omega) (by omega)))) (fun v M1 hv => ?_)
        obtain ⟨rfl, p1, p2⟩ := hv
        repeat refine zr_s rfl rfl rfl ?_
        refine zr_b rfl rfl ?_
        exact ih (i + 1) M1 (by omega) (fun a h1 h2 => by rw [p1 a h1 h2]; exact f1 a h1 h2) (by rw [e, if_pos h3]; exact p2)
  exact loop (pn P) 0 M (by omega) (fun _ _ _ => rfl) hR
theorem sp_beginIn {t : Int} (hB : zBk M P) (hw : zWf P) (hc : (zSh L)[c]? = some (.inl 60)) (hc2 : c < 29) (hr : ∀ i, i < pn P → 0 ≤ M c i ∧ M c i ≤ 1000) (ht : 0 ≤ t ∧ t ≤ 2000) (hR : zRu M P s B) : zf (zSh L) 3 kX3_beginIn [zvr 26, zvi t, zvr c] M (fun v M1 => v = none ∧ (∀ a, a ≠ 31 → a ≠ 32 → M1 a = M a) ∧ zRu M1 P (zbm P (M c) t s (pn P)) (fun j => B j ∨ M c j = t)) := by
  have h60 := hw.1
  have hn := hB.1
  refine zf_of rfl (Nat.le_of_ble_eq_true rfl) ?_
  repeat refine zr_t 2 rfl rfl rfl rfl ?_
  have loop : ∀ (k i : Nat) (N : zM), i + k = pn P → (∀ a, a ≠ 31 → a ≠ 32 → N a = M a) → zRu N P (zbm P (M c) t s i) (fun j => B j ∨ (j < i ∧ M c j = t)) → zr (zSh L) 2 tX3_beginIn 2 [some (zvr 26), some (zvi t), some (zvr c), some (zvi i)] [] N (fun v M1 => v = none ∧ (∀ a, a ≠ 31 → a ≠ 32 → M1 a = M a) ∧ zRu M1 P (zbm P (M c) t s (pn P)) (fun j => B j ∨ M c j = t)) := by
    intro k
    induction k with
    | zero =>
      intro i N hi f1 f2
      have hi2 : i = pn P := by omega
      subst hi2
      have hB1 : zBk N P := zBk_of hB (fun a h1 h2 => f1 a (by omega) (by omega))
      have hn1 := hB1.1
      repeat refine zr_s rfl rfl rfl ?_
      refine zr_ige rfl (by omega) (by omega) (fun h => ?_) (fun h => by omega)
      repeat refine zr_s rfl rfl rfl ?_
      refine zr_retv rfl ⟨rfl, f1, f2.1, f2.2.1, fun j hj hb => f2.2.2 j hj ?_⟩
      rcases hb with h | h
      · exact Or.inl h
      · exact Or.inr ⟨hj, h⟩
    | succ k ih =>
      intro i N hi f1 f2
      have hB1 : zBk N P := zBk_of hB (fun a h1 h2 => f1 a (by omega) (by omega))
      have hn1 := hB1.1
      have hri := hr i (by omega)
      have e : zbm P (M c) t s (i + 1) = if M c i = t then zbeg P (zbm P (M c) t s i) i else zbm P (M c) t s i := rfl
      repeat refine zr_s rfl rfl rfl ?_
      refine zr_ige rfl (by omega) (by omega) (fun h => by omega) (fun h => ?_)
      repeat refine zr_s rfl rfl rfl ?_
      refine zr_ald i rfl hc rfl (by omega) (by decide) ?_
      rw [f1 c (by omega) (by omega)]
      repeat refine zr_s rfl rfl rfl ?_
      refine zr_ine rfl (by omega) (by omega) (fun h3 => ?_) (fun h3 => ?_)
      · repeat refine zr_s rfl rfl rfl ?_
        refine zr_b rfl rfl ?_
        refine ih (i + 1) N (by omega) f1 ?_
        rw [e, if_neg h3]
        refine ⟨f2.1, f2.2.1, fun j hj hb => f2.2.2 j hj ?_⟩
        rcases hb with h | ⟨h, h4⟩
        · exact Or.inl h
        · refine Or.inr ⟨?_, h4⟩
          have : j ≠ i := fun z => h3 (by rw [← z]; exact h4)
          omega
      · repeat refine zr_s rfl rfl rfl ?_
        refine zr_c rfl rfl rfl (zf_mono (Nat.le_of_ble_eq_true rfl) (sp_begin hB1 hw (i := i) (by omega) f2)) (fun v M1 hv => ?_)
        obtain ⟨rfl, p1, p2⟩ := hv
        repeat refine zr_s rfl rfl rfl ?_
        refine zr_b rfl rfl ?_
        refine ih (i + 1) M1 (by omega) (fun a h1 h2 => by rw [p1 a h1 h2]; exact f1 a h1 h2) ?_
        rw [e, if_pos h3]
        refine ⟨p2.1, p2.2.1, fun j hj hb => p2.2.2 j hj ?_⟩
        by_cases hji : j = i
        · exact Or.inr hji
        · rcases hb with h | ⟨h, h4⟩
          · exact Or.inl (Or.inl h)
          · exact Or.inl (Or.inr ⟨by omega, h4⟩)
  exact loop (pn P) 0 M (by omega) (fun _ _ _ => rfl) ⟨hR.1, hR.2.1, fun j hj hb => hR.2.2 j hj (by rcases hb with h | h; exact h; omega)⟩
theorem sp_nextMoment {t : Int} (hB : zBk M P) (hw : zWf P) (hc : (zSh L)[c]? = some (.inl 60)) (hr : ∀ i, i < pn P → 0 ≤ M c i ∧ M c i ≤ 1000) (ht : -3 ≤ t ∧ t ≤ 2000) : zf (zSh L) 2 kX3_nextMoment [zvr 26, zvi t, zvr c] M (fun v M1 => ∃ x : Int, v = some (.inl x) ∧ M1 = M ∧ zNx P (M c) t x (pn P) ∧ -3 ≤ x ∧ x ≤ 1012) := by
  have h60 := hw.1
  have hn := hB.1
  refine zf_of rfl (Nat.le_of_ble_eq_true rfl) ?_
  repeat refine zr_t 6 rfl rfl rfl rfl ?_
  have loop : ∀ (k i : Nat) (o5 o6 : Option zV) (x : Int), i + k = pn P → zNx P (M c) t x i → -3 ≤ x → x ≤ 1012 → zr (zSh L) 1 tX3_nextMoment 6 [some (zvr 26), some (zvi t), some (zvr c), some (zvi x), some (zvi i), o5, o6] [] M (fun v M1 => ∃ x : Int, v = some (.inl x) ∧ M1 = M ∧ zNx P (M c) t x (pn P) ∧ -3 ≤ x ∧ x ≤ 1012) := by
    intro k
    induction k with
    | zero =>
      intro i o5 o6 x hi f1 f2 f3
      have hi2 : i = pn P := by omega
      subst hi2
      repeat refine zr_s rfl rfl rfl ?_
      refine zr_ige rfl (by omega) (by omega) (fun h => ?_) (fun h => by omega)
      repeat refine zr_s rfl rfl rfl ?_
      exact zr_ret rfl (⟨x, rfl, rfl, f1, f2, f3⟩)
    | succ k ih =>
      intro i o5 o6 x hi f1 f2 f3
      have hri := hr i (by omega)
      have hp := zpl_le hw (i := i) (by omega)
      have mid : ∀ y : Int, y = (if t < M c i then M c i else M c i + pl P i) → zr (zSh L) 1 tX3_nextMoment 49 [some (zvr 26), some (zvi t), some (zvr c), some (zvi x), some (zvi i), some (zvi (M c i)), some (zvi y)] [] M (fun v M1 => ∃ x : Int, v = some (.inl x) ∧ M1 = M ∧ zNx P (M c) t x (pn P) ∧ -3 ≤ x ∧ x ≤ 1012) := by
        intro y hy
        have hyI : 0 ≤ y ∧ y ≤ 1012 := by
          rw [hy]
          split <;> omega
        have keep : (y ≤ t ∨ (x ≠ -3 ∧ x ≤ y)) → zr (zSh L) 1 tX3_nextMoment 70 [some (zvr 26), some (zvi t), some (zvr c), some (zvi x), some (zvi i), some (zvi (M c i)), some (zvi y)] [] M (fun v M1 => ∃ x : Int, v = some (.inl x) ∧ M1 = M ∧ zNx P (M c) t x (pn P) ∧ -3 ≤ x ∧ x ≤ 1012) := by
          intro hk
          repeat refine zr_s rfl rfl rfl ?_
          refine zr_b rfl rfl ?_
          refine ih (i + 1) _ _ x (by omega) ?_ f2 f3
          rcases f1 with ⟨g1, g2⟩ | ⟨g1, ⟨j, g2, g3⟩, g4⟩
          · refine Or.inl ⟨g1, fun q hq => ?_⟩
            by_cases hqi : q = i
            · subst hqi
              split at hy <;> omega
            · exact g2 q (by omega)
          · refine Or.inr ⟨g1, ⟨j, by omega, g3⟩, fun q hq => ?_⟩
            by_cases hqi : q = i
            · subst hqi
              split at hy <;> omega
            · exact g4 q (by omega)
        have take : t < y → (x = -3 ∨ y < x) → zr (zSh L) 1 tX3_nextMoment 67 [some (zvr 26), some (zvi t), some (zvr c), some (zvi x), some (zvi i), some (zvi (M c i)), some (zvi y)] [] M (fun v M1 => ∃ x : Int, v = some (.inl x) ∧ M1 = M ∧ zNx P (M c) t x (pn P) ∧ -3 ≤ x ∧ x ≤ 1012) := by
          intro h1 h2
          repeat refine zr_s rfl rfl rfl ?_
          refine zr_b rfl rfl ?_
          refine ih (i + 1) _ _ y (by omega) (Or.inr ⟨h1, ⟨i, by omega, ?_⟩, fun q hq => ?_⟩) (by omega) (by omega)
          · split at hy
            · exact Or.inl hy.symm
            · exact Or.inr hy.symm
          · by_cases hqi : q = i
            · subst hqi
              split at hy <;> omega
            · rcases f1 with ⟨g1, g2⟩ | ⟨g1, -, g4⟩
              · have := g2 q (by omega)
                omega
              · have := g4 q (by omega)
                omega
        repeat refine zr_s rfl rfl rfl ?_
        refine zr_ile rfl (by omega) (by omega) (fun h3 => ?_) (fun h3 => ?_)
        · exact keep (Or.inl h3)
        · repeat refine zr_s rfl rfl rfl ?_
          refine zr_ieq rfl (by omega) (by decide) (fun h4 => ?_) (fun h4 => ?_)
          · exact take h3 (Or.inl h4)
          · repeat refine zr_s rfl rfl rfl ?_
            refine zr_ige rfl (by omega) (by omega) (fun h5 => ?_) (fun h5 => ?_)
            · exact keep (Or.inr ⟨h4, h5⟩)
            · exact take h3 (Or.inr h5)
      repeat refine zr_s rfl rfl rfl ?_
      refine zr_ige rfl (by omega) (by omega) (fun h => by omega) (fun h => ?_)
      repeat refine zr_s rfl rfl rfl ?_
      refine zr_ald i rfl hc rfl (by omega) (by decide) ?_
      repeat refine zr_s rfl rfl rfl ?_
      refine zr_ile rfl (by omega) (by omega) (fun h3 => ?_) (fun h3 => ?_)
      · repeat refine zr_s rfl rfl rfl ?_
        refine zr_cr rfl rfl rfl (zf_mono (Nat.le_of_ble_eq_true rfl) (sp_latencyOf hB hw (i := i) (by omega))) ?_
        repeat refine zr_t 49 rfl rfl rfl rfl ?_
        exact mid _ (by rw [if_neg (by omega)])
      · repeat refine zr_t 49 rfl rfl rfl rfl ?_
        exact mid _ (by rw [if_pos h3])
  exact loop (pn P) 0 _ _ (-3) (by omega) (Or.inl ⟨rfl, fun i hi => by omega⟩) (by decide) (by decide)
theorem sp_runByCycles (hB : zBk M P) (hw : zWf P) (hc : (zSh L)[c]? = some (.inl 60)) (hc2 : c < 29) (hr : ∀ i, i < pn P → 0 ≤ M c i ∧ M c i ≤ 1000) : zf (zSh L) 4 kX3_runByCycles [zvr 26, zvr c] M (fun v M1 => v = none ∧ (∀ a, a < 29 ∨ 32 < a → M1 a = M a) ∧ (∀ k, k < 16 → M1 29 k = (zrn P (M c) (M 27, M 28, fun _ => 0, fun _ => 0) 1013).1 k) ∧ ∀ k, k < 64 → M1 30 k = (zrn P (M c) (M 27, M 28, fun _ => 0, fun _ => 0) 1013).2.1 k) := by
  have h60 := hw.1
  have hn := hB.1
  have hev : ∀ i, i < pn P → 0 ≤ M c i ∧ M c i + pl P i ≤ 1012 := fun i hi => by
    have h1 := hr i hi
    have h2 := zpl_le hw hi
    omega
  refine zf_of rfl (Nat.le_of_ble_eq_true rfl) ?_
  repeat refine zr_s rfl rfl rfl ?_
  refine zr_c rfl rfl rfl (zf_mono (Nat.le_of_ble_eq_true rfl) (sp_startAnew)) (fun v M1 hv => ?_)
  obtain ⟨rfl, g1, g2, g3⟩ := hv
  have hBa : zBk M1 P := zBk_of hB (fun a h1 h2 => g1 a (by omega) (by omega))
  have ec : M1 c = M c := g1 c (by omega) (by omega)
  repeat refine zr_s rfl rfl rfl ?_
  refine zr_c rfl rfl rfl (zf_mono (Nat.le_of_ble_eq_true rfl) (sp_nextMoment (t := -3) hBa hw hc (fun i hi => by rw [ec]; exact hr i hi) (by decide))) (fun v M2 hv => ?_)
  obtain ⟨x0, rfl, rfl, hx0, hx1, hx2⟩ := hv
  rw [ec] at hx0
  repeat refine zr_t 14 rfl rfl rfl rfl ?_
  have loop : ∀ (k m : Nat) (t : Int) (N : zM), m + k = 2 * pn P → (∀ a, a < 29 ∨ 32 < a → N a = M a) → (t = -3 ∧ (∃ B, zRu N P (zrn P (M c) (M 27, M 28, fun _ => 0, fun _ => 0) 1013) B) ∨ (0 ≤ t ∧ t ≤ 1012 ∧ (∃ j, j < pn P ∧ (M c j = t ∨ M c j + pl P j = t)) ∧ m ≤ zev P (M c) t (pn P) ∧ zRu N P (zrn P (M c) (M 27, M 28, fun _ => 0, fun _ => 0) t.toNat) (fun i => M c i < t))) → zr (zSh L) 3 tX3_runByCycles 14 [some (zvr 26), some (zvr c), some (zvi t), some (zvi m)] [] N (fun v M1 => v = none ∧ (∀ a, a < 29 ∨ 32 < a → M1 a = M a) ∧ (∀ k, k < 16 → M1 29 k = (zrn P (M c) (M 27, M 28, fun _ => 0, fun _ => 0) 1013).1 k) ∧ ∀ k, k < 64 → M1 30 k = (zrn P (M c) (M 27, M 28, fun _ => 0, fun _ => 0) 1013).2.1 k) := by
    intro k
    induction k with
    | zero =>
      intro m t N hm f1 f2
      have hB1 : zBk N P := zBk_of hB (fun a h1 h2 => f1 a (by omega))
      have hn1 := hB1.1
      rcases f2 with ⟨rfl, B, f2⟩ | ⟨q1, q2, ⟨j, q3, q4⟩, q5, -⟩
      · repeat refine zr_s rfl rfl rfl ?_
        refine zr_ige rfl (by omega) (by omega) (fun h => ?_) (fun h => by omega)
        repeat refine zr_s rfl rfl rfl ?_
        exact zr_retv rfl (⟨rfl, f1, f2.1, f2.2.1⟩)
      · have := zev_lt (P := P) (w := M c) (t := t) (j := j) (by omega) (pn P) q3
        omega
    | succ k ih =>
      intro m t N hm f1 f2
      have hB1 : zBk N P := zBk_of hB (fun a h1 h2 => f1 a (by omega))
      have hn1 := hB1.1
      have ecN : N c = M c := f1 c (by omega)
      have hrN : ∀ i, i < pn P → 0 ≤ N c i ∧ N c i ≤ 1000 := fun i hi => by rw [ecN]; exact hr i hi
      repeat refine zr_s rfl rfl rfl ?_
      refine zr_ige rfl (by omega) (by omega) (fun h => by omega) (fun h => ?_)
      rcases f2 with ⟨rfl, B, f2⟩ | ⟨q1, q2, ⟨j, q3, q4⟩, q5, q6⟩
      · repeat refine zr_s rfl rfl rfl ?_
        refine zr_ieq rfl (by decide) (by decide) (fun _ => ?_) (fun h => absurd rfl h)
        repeat refine zr_s rfl rfl rfl ?_
        exact zr_retv rfl (⟨rfl, f1, f2.1, f2.2.1⟩)
      · repeat refine zr_s rfl rfl rfl ?_
        refine zr_ieq rfl (by omega) (by decide) (fun h => by omega) (fun _ => ?_)
        repeat refine zr_s rfl rfl rfl ?_
        refine zr_c rfl rfl rfl (zf_mono (Nat.le_of_ble_eq_true rfl) (sp_comeIn (t := t) hB1 hw hc hc2 hrN (by omega) q6 (fun i hi h => by rw [ecN] at h; exact h))) (fun v M1 hv => ?_)
        obtain ⟨rfl, p1, p2⟩ := hv
        have hB2 : zBk M1 P := zBk_of hB1 (fun a h1 h2 => p1 a (by omega) (by omega))
        have ec2 : M1 c = M c := by rw [p1 c (by omega) (by omega), ecN]
        rw [ecN] at p2
        repeat refine zr_s rfl rfl rfl ?_
        refine zr_c rfl rfl rfl (zf_mono (Nat.le_of_ble_eq_true rfl) (sp_beginIn (t := t) hB2 hw hc hc2 (fun i hi => by rw [ec2]; exact hr i hi) (by omega) p2)) (fun v M3 hv => ?_)
        obtain ⟨rfl, p3, p4⟩ := hv
        have hB3 : zBk M3 P := zBk_of hB2 (fun a h1 h2 => p3 a (by omega) (by omega))
        have ec3 : M3 c = M c := by rw [p3 c (by omega) (by omega), ec2]
        rw [ec2] at p4
        repeat refine zr_s rfl rfl rfl ?_
        refine zr_c rfl rfl rfl (zf_mono (Nat.le_of_ble_eq_true rfl) (sp_nextMoment (t := t) hB3 hw hc (fun i hi => by rw [ec3]; exact hr i hi) (by omega))) (fun v M4 hv => ?_)
        obtain ⟨x, rfl, rfl, hx, hxa, hxb⟩ := hv
        rw [ec3] at hx
        repeat refine zr_s rfl rfl rfl ?_
        refine zr_b rfl rfl ?_
        have hsucc : zrn P (M c) (M 27, M 28, fun _ => 0, fun _ => 0) (t.toNat + 1) = zbm P (M c) t (zcm P (M c) t (zrn P (M c) (M 27, M 28, fun _ => 0, fun _ => 0) t.toNat) (pn P)) (pn P) := by
          show zbm P (M c) ((t.toNat : Nat) : Int) (zcm P (M c) ((t.toNat : Nat) : Int) _ (pn P)) (pn P) = _
          rw [show ((t.toNat : Nat) : Int) = t by omega]
        rw [← hsucc] at p4
        refine ih (m + 1) x M4 (by omega) (fun a ha => by rw [p3 a (by omega) (by omega), p1 a (by omega) (by omega)]; exact f1 a ha) ?_
        rcases hx with ⟨rfl, h3⟩ | ⟨h1, ⟨j2, h2, h3⟩, h4⟩
        · refine Or.inl ⟨rfl, fun j => M c j < t ∨ M c j = t, ?_⟩
          rw [zrn_skip (a := t.toNat + 1) 1013 (by omega) (fun t2 g1 g2 i hi => by have := h3 i hi; omega)]
          exact p4
        · refine Or.inr ⟨by omega, hxb, ⟨j2, h2, h3⟩, ?_, ?_⟩
          · have := zev_strict (P := P) (w := M c) h1 q4 (pn P) q3
            omega
          · rw [zrn_skip (a := t.toNat + 1) x.toNat (by omega) (fun t2 g1 g2 i hi => by have := h4 i hi; omega)]
            refine ⟨p4.1, p4.2.1, fun i hi hb => p4.2.2 i hi ?_⟩
            have := h4 i hi
            omega
  refine loop (2 * pn P) 0 x0 M2 (by omega) (fun a ha => g1 a (by omega) (by omega)) ?_
  rcases hx0 with ⟨rfl, h3⟩ | ⟨h1, ⟨j2, h2, h3⟩, h4⟩
  · refine Or.inl ⟨rfl, fun _ => False, ?_⟩
    rw [zrn_skip (a := 0) 1013 (by omega) (fun t2 g1 g2 i hi => by have := h3 i hi; have := hev i hi; omega)]
    exact ⟨g2, g3, fun j hj hF => hF.elim⟩
  · have hx00 : 0 ≤ x0 := by
      have := hev j2 h2
      omega
    refine Or.inr ⟨hx00, hx2, ⟨j2, h2, h3⟩, Nat.zero_le _, ?_⟩
    rw [zrn_skip (a := 0) x0.toNat (by omega) (fun t2 g1 g2 i hi => by have := h4 i hi; have := hev i hi; omega)]
    refine ⟨g2, g3, fun j hj hF => ?_⟩
    have := h4 j hj
    have := hev j hj
    omega
end ZX
