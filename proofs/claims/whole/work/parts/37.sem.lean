/-! WHAT EACH CALL ANSWERS AND CHANGES, in words of a block, for the class and for the reference alike -/
theorem zIsW_uniq {P : zP} {f g : Nat → Int} (hf : zIsW P f 0) (hg : zIsW P g 0) : ∀ (k i : Nat), i + k = pn P → i < pn P → f i = g i
  | 0, i, hk, hi => by omega
  | k + 1, i, hk, hi => by
    rw [hf i (Nat.zero_le _) hi, hg i (Nat.zero_le _) hi]
    exact zwf_congr _ (fun j h1 h2 => zIsW_uniq hf hg (pn P - j) j (by omega) (by omega))
  termination_by k => k
theorem zIsE_uniq {P : zP} {f g : Nat → Int} {m : Nat} (hf : zIsE P f m) (hg : zIsE P g m) : ∀ (k i : Nat), i < k → i < m → f i = g i
  | 0, i, hk, hi => by omega
  | k + 1, i, hk, hi => by
    rw [hf i hi, hg i hi]
    exact zlc_congr _ (fun a ha _ => zIsE_uniq hf hg k a (by omega) (by omega))
noncomputable def zway (P : zP) : Nat → Int := Classical.epsilon (h := ⟨fun _ => 0⟩) (fun f => zIsW P f 0)
noncomputable def zear (P : zP) : Nat → Int := Classical.epsilon (h := ⟨fun _ => 0⟩) (fun f => zIsE P f (pn P))
theorem zway_eq {P : zP} {f : Nat → Int} (h : zIsW P f 0) {i : Nat} (hi : i < pn P) : f i = zway P i := zIsW_uniq h (Classical.epsilon_spec (p := fun f => zIsW P f 0) ⟨f, h⟩) (pn P - i) i (by omega) hi
theorem zear_eq {P : zP} {f : Nat → Int} (h : zIsE P f (pn P)) {i : Nat} (hi : i < pn P) : f i = zear P i := zIsE_uniq h (Classical.epsilon_spec (p := fun f => zIsE P f (pn P)) ⟨f, h⟩) (i + 1) i (by omega) hi
/-- what stands of a plan w -/
noncomputable def zver (P : zP) (w : Nat → Int) : Int × Int × Int := Classical.epsilon (h := ⟨(0, 0, 0)⟩) (fun t => zVd P w t.1 t.2.1 t.2.2)
theorem zVd_uniq {P : zP} {w : Nat → Int} {v a b v2 a2 b2 : Int} (h : zVd P w v a b) (h2 : zVd P w v2 a2 b2) : v = v2 ∧ a = a2 ∧ b = b2 := by
  unfold zVd at h h2
  rcases h with ⟨r1, r2, i, r3, r4, r5, r6⟩ | ⟨r1, r2, i, j, r3, r4, r5, r6, r7, r8, r9⟩ | ⟨r1, r2, r3, r4, r5, r6, r7⟩ | ⟨r1, r2, r3, r4, r5, r6⟩ <;>
  rcases h2 with ⟨s1, s2, i2, s3, s4, s5, s6⟩ | ⟨s1, s2, i2, j2, s3, s4, s5, s6, s7, s8, s9⟩ | ⟨s1, s2, s3, s4, s5, s6, s7⟩ | ⟨s1, s2, s3, s4, s5, s6⟩
  · rcases Nat.lt_trichotomy i i2 with h | h | h
    · exact absurd r4 (s5 i h)
    · omega
    · exact absurd s4 (r5 i2 h)
  · exact absurd r4 (s2 i r3)
  · exact absurd r4 (s2 i r3)
  · exact absurd r4 (s2 i r3)
  · exact absurd s4 (r2 i2 s3)
  · rcases Nat.lt_trichotomy j j2 with h | h | h
    · exact absurd r5 (s6 j h i r3)
    · subst h
      rcases Nat.lt_trichotomy i i2 with h | h | h
      · exact absurd r5 (s7 i h)
      · omega
      · exact absurd s5 (r7 i2 h)
    · exact absurd s5 (r6 j2 h i2 s3)
  · exact absurd r5 (s3 j r4 i r3)
  · exact absurd r5 (s3 j r4 i r3)
  · exact absurd s4 (r2 i2 s3)
  · exact absurd s5 (r3 j2 s4 i2 s3)
  · rcases Int.lt_trichotomy a a2 with h | h | h
    · have := s7 a r5 h
      omega
    · omega
    · have := r7 a2 s5 h
      omega
  · have := s4 a r5
    omega
  · exact absurd s4 (r2 i2 s3)
  · exact absurd s5 (r3 j2 s4 i2 s3)
  · have := r4 a2 s5
    omega
  · omega
theorem zver_eq {P : zP} {w : Nat → Int} {v a b : Int} (h : zVd P w v a b) : zver P w = (v, a, b) := by
  have h2 : zVd P w (zver P w).1 (zver P w).2.1 (zver P w).2.2 := Classical.epsilon_spec (p := fun t : Int × Int × Int => zVd P w t.1 t.2.1 t.2.2) ⟨(v, a, b), h⟩
  obtain ⟨h3, h4, h5⟩ := zVd_uniq h h2
  rw [h3, h4, h5]
theorem zct_congr {w w2 : Nat → Int} {c : Int} : ∀ m, (∀ i, i < m → w i = w2 i) → zct w c m = zct w2 c m
  | 0, _ => rfl
  | m + 1, h => by
    show zct w c m + (if w m = c then 1 else 0) = zct w2 c m + (if w2 m = c then 1 else 0)
    rw [zct_congr m (fun i hi => h i (by omega)), h m (by omega)]
theorem zVd_congr {P : zP} {w w2 : Nat → Int} {v a b : Int} (e : ∀ i, i < pn P → w i = w2 i) (h : zVd P w v a b) : zVd P w2 v a b := by
  have eb : ∀ i j, i < j → j < pn P → (zbad P w i j ↔ zbad P w2 i j) := by
    intro i j h1 h2
    unfold zbad
    rw [e i (by omega), e j h2]
  have ec : ∀ c, zct w c (pn P) = zct w2 c (pn P) := fun c => zct_congr _ e
  rcases h with ⟨r1, r2, i, r3, r4, r5, r6⟩ | ⟨r1, r2, i, j, r3, r4, r5, r6, r7, r8, r9⟩ | ⟨r1, r2, r3, r4, r5, r6, r7⟩ | ⟨r1, r2, r3, r4, r5, r6⟩
  · exact Or.inl ⟨r1, r2, i, r3, by rw [← e i r3]; exact r4, fun q hq => by rw [← e q (by omega)]; exact r5 q hq, r6⟩
  · exact Or.inr (Or.inl ⟨r1, fun q hq => by rw [← e q hq]; exact r2 q hq, i, j, r3, r4, (eb i j r3 r4).mp r5, fun j2 g1 i2 g2 z => r6 j2 g1 i2 g2 ((eb i2 j2 g2 (by omega)).mpr z), fun i2 g1 z => r7 i2 g1 ((eb i2 j (by omega) r4).mpr z), r8, r9⟩)
  · exact Or.inr (Or.inr (Or.inl ⟨r1, fun q hq => by rw [← e q hq]; exact r2 q hq, fun j g1 i g2 z => r3 j g1 i g2 ((eb i j g2 g1).mpr z), r4, r5, by rw [← ec]; exact r6, fun c g1 g2 => by rw [← ec]; exact r7 c g1 g2⟩))
  · exact Or.inr (Or.inr (Or.inr ⟨r1, fun q hq => by rw [← e q hq]; exact r2 q hq, fun j g1 i g2 z => r3 j g1 i g2 ((eb i j g2 g1).mpr z), fun c g1 => by rw [← ec]; exact r4 c g1, r5, r6⟩))
theorem zlen_congr {P : zP} {f g : Nat → Int} : ∀ m, (∀ i, i < m → f i = g i) → zlen P f m = zlen P g m
  | 0, _ => rfl
  | m + 1, h => by
    show max (zlen P f m) (f m + _) = max (zlen P g m) (g m + _)
    rw [zlen_congr m (fun i hi => h i (by omega)), h m (by omega)]
theorem zmxr_congr0 {P : zP} {f g : Nat → Int} (h : ∀ i, i < pn P → f i = g i) : zmxr f 0 (pn P) = zmxr g 0 (pn P) := zmxr_congr _ _ (fun j _ h2 => h j (by omega))
theorem zbst_congr {P : zP} {W W2 f : Nat → Int} {c : Int} : ∀ m, (∀ i, i < m → W i = W2 i) → zbst P W f c m = zbst P W2 f c m
  | 0, _ => rfl
  | m + 1, h => by
    have ih := zbst_congr (P := P) (f := f) (c := c) m (fun i hi => h i (by omega))
    have hb : zbst P W2 f c m = -3 ∨ W (zbst P W2 f c m).toNat = W2 (zbst P W2 f c m).toNat := by
      rcases zbst_I P W2 f c m with h1 | ⟨b, h1, h2, -⟩
      · exact Or.inl h1
      · rw [h1, Int.toNat_natCast]
        exact Or.inr (h b (by omega))
    show (if zfree P f m = true ∧ zpf P f m ≤ c ∧ (zbst P W f c m = -3 ∨ W (zbst P W f c m).toNat < W m) then (m : Int) else zbst P W f c m) = (if zfree P f m = true ∧ zpf P f m ≤ c ∧ (zbst P W2 f c m = -3 ∨ W2 (zbst P W2 f c m).toNat < W2 m) then (m : Int) else zbst P W2 f c m)
    rw [ih, h m (by omega)]
    rcases hb with hb | hb
    · rw [hb]
      simp
    · rw [hb]
theorem zls_congr {P : zP} {W W2 : Nat → Int} (h : ∀ i, i < pn P → W i = W2 i) : ∀ k, zls P W k = zls P W2 k
  | 0 => rfl
  | k + 1 => by
    show zlnext P W k (zls P W k) = zlnext P W2 k (zls P W2 k)
    rw [zls_congr h k]
    have hb : ∀ f c, zbst P W f c (pn P) = zbst P W2 f c (pn P) := fun f c => zbst_congr _ h
    unfold zlnext
    simp only [hb]
theorem zcm_congr {P : zP} {w w2 : Nat → Int} {t : Int} {s : zRS} : ∀ m, (∀ i, i < m → w i = w2 i) → zcm P w t s m = zcm P w2 t s m
  | 0, _ => rfl
  | m + 1, h => by
    show (if w m + _ = t then _ else _) = (if w2 m + _ = t then _ else _)
    rw [zcm_congr m (fun i hi => h i (by omega)), h m (by omega)]
theorem zbm_congr {P : zP} {w w2 : Nat → Int} {t : Int} {s : zRS} : ∀ m, (∀ i, i < m → w i = w2 i) → zbm P w t s m = zbm P w2 t s m
  | 0, _ => rfl
  | m + 1, h => by
    show (if w m = t then _ else _) = (if w2 m = t then _ else _)
    rw [zbm_congr m (fun i hi => h i (by omega)), h m (by omega)]
theorem zrn_congr {P : zP} {w w2 : Nat → Int} {s : zRS} (h : ∀ i, i < pn P → w i = w2 i) : ∀ t, zrn P w s t = zrn P w2 s t
  | 0 => rfl
  | t + 1 => by
    show zbm P w t (zcm P w t (zrn P w s t) (pn P)) (pn P) = zbm P w2 t (zcm P w2 t (zrn P w2 s t) (pn P)) (pn P)
    rw [zrn_congr h t, zcm_congr _ h, zbm_congr _ h]
/-- two states of registers and memory that agree where a program can look -/
def zag (s s2 : zRS) : Prop := (∀ k, k < 16 → s.1 k = s2.1 k) ∧ (∀ k, k < 64 → s.2.1 k = s2.2.1 k) ∧ s.2.2 = s2.2.2
theorem zag_beg {P : zP} (hw : zWf P) {s s2 : zRS} {i : Nat} (hi : i < pn P) (h : zag s s2) : zag (zbeg P s i) (zbeg P s2 i) := by
  obtain ⟨h1, h2, h3⟩ := h
  obtain ⟨-, -, ha, hb, -⟩ := hw.2.2.2.2 i hi
  have ea : zadr P s.1 i = zadr P s2.1 i := by
    unfold zadr
    rw [h1 _ ha]
  have hI := zadr_I P s2.1 i
  have er : zres P s.1 s.2.1 i = zres P s2.1 s2.2.1 i := by
    unfold zres
    rw [h1 _ ha, h1 _ hb, ea, h2 _ (by omega)]
  refine ⟨h1, h2, ?_⟩
  show (zfu s.2.2.1 i _, zfu s.2.2.2 i _) = (zfu s2.2.2.1 i _, zfu s2.2.2.2 i _)
  rw [ea, er, h3]
theorem zag_com {P : zP} {s s2 : zRS} {i : Nat} (h : zag s s2) : zag (zcom P s i) (zcom P s2 i) := by
  obtain ⟨h1, h2, h3⟩ := h
  unfold zcom
  split
  · refine ⟨h1, fun k hk => ?_, h3⟩
    show zfu s.2.1 (s.2.2.2 i).toNat (s.2.2.1 i) k = zfu s2.2.1 (s2.2.2.2 i).toNat (s2.2.2.1 i) k
    rw [h3]
    unfold zfu
    split
    · rfl
    · exact h2 k hk
  · refine ⟨fun k hk => ?_, h2, h3⟩
    show zfu s.1 (pT P i) (s.2.2.1 i) k = zfu s2.1 (pT P i) (s2.2.2.1 i) k
    rw [h3]
    unfold zfu
    split
    · rfl
    · exact h1 k hk
theorem zag_st {P : zP} (hw : zWf P) {s s2 : zRS} (h : zag s s2) : ∀ m, m ≤ pn P → zag (zst P s m) (zst P s2 m)
  | 0, _ => h
  | m + 1, hm => zag_com (zag_beg hw (by omega) (zag_st hw h m (by omega)))
theorem zag_cm {P : zP} {w : Nat → Int} {t : Int} {s s2 : zRS} (h : zag s s2) : ∀ m, zag (zcm P w t s m) (zcm P w t s2 m)
  | 0 => h
  | m + 1 => by
    show zag (if w m + _ = t then _ else _) (if w m + _ = t then _ else _)
    split
    · exact zag_com (zag_cm h m)
    · exact zag_cm h m
theorem zag_bm {P : zP} (hw : zWf P) {w : Nat → Int} {t : Int} {s s2 : zRS} (h : zag s s2) : ∀ m, m ≤ pn P → zag (zbm P w t s m) (zbm P w t s2 m)
  | 0, _ => h
  | m + 1, hm => by
    show zag (if w m = t then _ else _) (if w m = t then _ else _)
    split
    · exact zag_beg hw (by omega) (zag_bm hw h m (by omega))
    · exact zag_bm hw h m (by omega)
theorem zag_rn {P : zP} (hw : zWf P) {w : Nat → Int} {s s2 : zRS} (h : zag s s2) : ∀ t, zag (zrn P w s t) (zrn P w s2 t)
  | 0 => h
  | t + 1 => zag_bm hw (zag_cm (zag_rn hw h t) _) _ (Nat.le_refl _)
/-- block; one's own plan; what check told; what is given; registers and memory behind the latest run -/
abbrev zA : Type := zP × (Nat → Int) × (Int × Int) × ((Nat → Int) × (Nat → Int)) × ((Nat → Int) × (Nat → Int))
def zisR (x : Int) : Prop := 0 ≤ x ∧ x < 16
def zgood' (k d a b : Int) : Prop := (0 ≤ k ∧ k < 7) ∧ (k = 6 ∨ zisR d) ∧ (k = 0 ∨ zisR a) ∧ (k = 0 ∨ k = 5 ∨ zisR b)
def zfn (f : Nat → Nat) (i x : Nat) : Nat → Nat := fun j => if j = i then x else f j
def zadd (P : zP) (k d a b c : Int) : zP := (pn P + 1, pu P, zfn (pK P) (pn P) k.toNat, zfn (pT P) (pn P) (if k = 6 then 0 else d.toNat), zfn (pA P) (pn P) (if k = 0 then 0 else a.toNat), zfn (pB P) (pn P) (if k = 0 ∨ k = 5 then 0 else b.toNat), zfu (pC P) (pn P) c, pq P)
noncomputable def zs_add (A : zA) (k d a b c : Int) : Int × zA := @ite _ (zgood' k d a b) (Classical.propDecidable _) (if pn A.1 = 60 then (-2, A) else ((pn A.1 : Int), (zadd A.1 k d a b c, zfu A.2.1 (pn A.1) (-3), A.2.2))) (-1, A)
def zs_cut (A : zA) (m : Int) : Int × zA := if m < 0 ∨ (pn A.1 : Int) < m then (-1, A) else ((pn A.1 : Int) - m, ((((pn A.1 : Int) - m).toNat, A.1.2), A.2))
def zs_latency (A : zA) (k c : Int) : Int × zA := if k < 0 ∨ 6 < k ∨ c < 1 ∨ 12 < c then (-1, A) else ((pq A.1 k.toNat : Int), ((pn A.1, pu A.1, pK A.1, pT A.1, pA A.1, pB A.1, pC A.1, zfn (pq A.1) k.toNat c.toNat), A.2))
def zs_units (A : zA) (m : Int) : Int × zA := if m < 1 ∨ 8 < m then (-1, A) else ((pu A.1 : Int), ((pn A.1, m.toNat, A.1.2.2), A.2))
def zin' (P : zP) (i : Int) : Prop := 0 ≤ i ∧ i < pn P
noncomputable def zs_delay (A : zA) (i j : Int) : Int := @ite _ (zin' A.1 i ∧ zin' A.1 j) (Classical.propDecidable _) (if i.toNat < j.toNat then zdc A.1 i.toNat j.toNat else -3) (-1)
noncomputable def zs_about (A : zA) (i what : Int) : Int := @ite _ (zin' A.1 i) (Classical.propDecidable _) (
  if what = 0 then zway A.1 i.toNat else if what = 1 then zear A.1 i.toNat else if what = 2 then zmxr (zway A.1) 0 (pn A.1) - zway A.1 i.toNat - zear A.1 i.toNat else
  if what = 3 then (zls A.1 (zway A.1) (pn A.1)).1 i.toNat else if what = 4 then (zio A.1 (fun k => k) (pn A.1)).1 i.toNat else if what = 5 then (zio A.1 (zod A.1 (zway A.1)) (pn A.1)).1 i.toNat else if what = 6 then A.2.1 i.toNat else -1) (-1)
noncomputable def zs_listed (A : zA) (k : Int) : Int := @ite _ (zin' A.1 k) (Classical.propDecidable _) (zod A.1 (zway A.1) k.toNat : Int) (-1)
noncomputable def zshort (P : zP) : Int := zta P (zway P) 7 (fun _ => -3) 0 0 0 (zlen P (zls P (zway P) (pn P)).1 (pn P))
noncomputable def zs_length (A : zA) (what : Int) : Int :=
  if what = 0 then zmxr (zway A.1) 0 (pn A.1) else if what = 1 then zlen A.1 (zls A.1 (zway A.1) (pn A.1)).1 (pn A.1) else if what = 2 then zlen A.1 (zio A.1 (fun k => k) (pn A.1)).1 (pn A.1) else
  if what = 3 then zlen A.1 (zio A.1 (zod A.1 (zway A.1)) (pn A.1)).1 (pn A.1) else if what = 4 then (if 7 < pn A.1 then -3 else zshort A.1) else if what = 5 then (if (zver A.1 A.2.1).1 = 0 then zlen A.1 A.2.1 (pn A.1) else -3) else
  if what = 6 then (pn A.1 : Int) else if what = 7 then (zpairs A.1 (pn A.1) : Int) else -1
noncomputable def zs_place (A : zA) (i c : Int) : Int × zA := @ite _ (zin' A.1 i ∧ 0 ≤ c ∧ c ≤ 1000) (Classical.propDecidable _) (A.2.1 i.toNat, (A.1, zfu A.2.1 i.toNat c, A.2.2)) (-1, A)
noncomputable def zs_check (A : zA) : Int × zA := ((zver A.1 A.2.1).1, (A.1, A.2.1, ((zver A.1 A.2.1).2.1, (zver A.1 A.2.1).2.2), A.2.2.2))
def zs_wrong (A : zA) (p : Int) : Int := if p = 0 then A.2.2.1.1 else if p = 1 then A.2.2.1.2 else -1
def zs_given (A : zA) (w k x : Int) : Int × zA := if w = 0 ∧ 0 ≤ k ∧ k < 16 then (A.2.2.2.1.1 k.toNat, (A.1, A.2.1, A.2.2.1, (zfu A.2.2.2.1.1 k.toNat x, A.2.2.2.1.2), A.2.2.2.2)) else if w = 1 ∧ 0 ≤ k ∧ k < 64 then (A.2.2.2.1.2 k.toNat, (A.1, A.2.1, A.2.2.1, (A.2.2.2.1.1, zfu A.2.2.2.1.2 k.toNat x), A.2.2.2.2)) else (0, A)
def zgo0 (A : zA) : zRS := (A.2.2.2.1.1, A.2.2.2.1.2, fun _ => 0, fun _ => 0)
def zset (A : zA) (s : zRS) : zA := (A.1, A.2.1, A.2.2.1, A.2.2.2.1, (s.1, s.2.1))
noncomputable def zs_run (A : zA) (how : Int) : Int × zA :=
  if how = 0 then (zlen A.1 (zio A.1 (fun k => k) (pn A.1)).1 (pn A.1), zset A (zst A.1 (zgo0 A) (pn A.1))) else
  if how = 1 then (zlen A.1 (zls A.1 (zway A.1) (pn A.1)).1 (pn A.1), zset A (zrn A.1 (zls A.1 (zway A.1) (pn A.1)).1 (zgo0 A) 1013)) else
  if how = 2 then (if (zver A.1 A.2.1).1 = 0 then (zlen A.1 A.2.1 (pn A.1), zset A (zrn A.1 A.2.1 (zgo0 A) 1013)) else (-3, A)) else (-1, A)
def zs_value (A : zA) (w k : Int) : Int := if w = 0 ∧ 0 ≤ k ∧ k < 16 then A.2.2.2.2.1 k.toNat else if w = 1 ∧ 0 ≤ k ∧ k < 64 then A.2.2.2.2.2 k.toNat else 0
