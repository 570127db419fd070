/-! REGISTERS AND MEMORY, as the class runs -/
section ZX
variable {S : List zC} {d : Nat} {cd : List (Option zR)} {pc : Nat} {ls : List (Option zV)} {st : List zV} {M : zM} {Q : Option zV → zM → Prop}
theorem zr_ige_w {x y : Int} {off : Int} {ra rb rt : Nat} (hc : cd[pc]? = some (some (.if_icmp .ge off, ra, rb, rt))) (kt : ¬ zw x < zw y → zr S d cd (ztgt pc off) ls st M Q) (kf : zw x < zw y → zr S d cd (pc + 3) ls st M Q) : zr S d cd pc ls (.inl y :: .inl x :: st) M Q := by
  by_cases hh : zw x < zw y
  · refine zWp_step hc rfl (s2 := (pc + 3, ls, st, S, M)) ?_ (kf hh)
    show some (if zw x ≥ zw y then ztgt pc off else pc + 3, ls, st, S, M) = _
    rw [if_neg (by omega)]
  · refine zWp_step hc rfl (s2 := (ztgt pc off, ls, st, S, M)) ?_ (kt hh)
    show some (if zw x ≥ zw y then ztgt pc off else pc + 3, ls, st, S, M) = _
    rw [if_pos (by omega)]
theorem zr_tabIn {x : Int} {dflt lo hi : Int} {offs : Array Int} {ra rb rt : Nat} (off : Int) (hc : cd[pc]? = some (some (.tableswitch dflt lo hi offs, ra, rb, rt))) (hx : zI x) (h1 : lo ≤ x) (h2 : x ≤ hi) (ho : offs.toList[(x - lo).toNat]? = some off) (k : zr S d cd (ztgt pc off) ls st M Q) : zr S d cd pc ls (.inl x :: st) M Q := by
  refine zWp_step hc rfl (s2 := (ztgt pc off, ls, st, S, M)) ?_ k
  show (if zw x < lo ∨ hi < zw x then some (ztgt pc dflt, ls, st, S, M) else match offs.toList[(zw x - lo).toNat]? with
    | some off => some (ztgt pc off, ls, st, S, M)
    | none => none) = _
  rw [zwid hx.1 hx.2, if_neg (by omega), ho]
theorem zr_tabOut {x : Int} {dflt lo hi : Int} {offs : Array Int} {ra rb rt : Nat} (hc : cd[pc]? = some (some (.tableswitch dflt lo hi offs, ra, rb, rt))) (hx : zI x) (h : x < lo ∨ hi < x) (k : zr S d cd (ztgt pc dflt) ls st M Q) : zr S d cd pc ls (.inl x :: st) M Q := by
  refine zWp_step hc rfl (s2 := (ztgt pc dflt, ls, st, S, M)) ?_ k
  show (if zw x < lo ∨ hi < zw x then some (ztgt pc dflt, ls, st, S, M) else match offs.toList[(zw x - lo).toNat]? with
    | some off => some (ztgt pc off, ls, st, S, M)
    | none => none) = _
  rw [zwid hx.1 hx.2, if_pos h]
theorem zr_copy {i j n0 n1 : Nat} {n : Nat} {idx ra rb : Nat} (hc : cd[pc]? = some (some (.invokestatic idx, ra, rb, 3))) (h0 : S[i + 1]? = some (.inl n0)) (h1 : S[j + 1]? = some (.inl n1)) (hn0 : n ≤ n0) (hn1 : n ≤ n1) (hn : n ≤ 65536) (hst : st.length ≤ 8) (k : zr S d cd (pc + 3) ls st (zcopy M (i + 1) (j + 1) 0 0 n) Q) : zr S d cd pc ls (.inl (n : Int) :: .inl 0 :: .inr (some (j + 1)) :: .inl 0 :: .inr (some (i + 1)) :: st) M Q := by
  have hz : zw 0 = 0 := by decide
  have hw : zw (n : Int) = n := zwid (by omega) (by omega)
  refine zWp_step hc rfl (s2 := (pc + 3, ls, st, S, zcopy M (i + 1) (j + 1) 0 0 n)) ?_ k
  simp only [zstep, h0, h1]
  rw [hz, hw, if_pos ⟨hst, by omega, by omega, by omega, by omega, by omega⟩]
  rfl
end ZX
abbrev zRS : Type := (Nat → Int) × (Nat → Int) × (Nat → Int) × (Nat → Int)
def zadr (P : zP) (R : Nat → Int) (i : Nat) : Int := zw (R (pA P i) + pC P i) % 64
def zres (P : zP) (R G : Nat → Int) (i : Nat) : Int := match pK P i with
  | 0 => pC P i
  | 1 => R (pA P i) + R (pB P i)
  | 2 => R (pA P i) - R (pB P i)
  | 3 => R (pA P i) * R (pB P i)
  | 4 => if zw (R (pA P i)) < zw (R (pB P i)) then 1 else 0
  | 5 => G (zadr P R i).toNat
  | _ => R (pB P i)
def zbeg (P : zP) (s : zRS) (i : Nat) : zRS := (s.1, s.2.1, zfu s.2.2.1 i (zres P s.1 s.2.1 i), zfu s.2.2.2 i (zadr P s.1 i))
def zcom (P : zP) (s : zRS) (i : Nat) : zRS := if pK P i = 6 then (s.1, zfu s.2.1 (s.2.2.2 i).toNat (s.2.2.1 i), s.2.2) else (zfu s.1 (pT P i) (s.2.2.1 i), s.2.1, s.2.2)
def zRu (M : zM) (P : zP) (s : zRS) (B : Nat → Prop) : Prop := (∀ k, k < 16 → M 29 k = s.1 k) ∧ (∀ k, k < 64 → M 30 k = s.2.1 k) ∧ ∀ i, i < pn P → B i → M 31 i = s.2.2.1 i ∧ M 32 i = s.2.2.2 i ∧ 0 ≤ s.2.2.2 i ∧ s.2.2.2 i < 64
theorem zadr_I (P : zP) (R : Nat → Int) (i : Nat) : 0 ≤ zadr P R i ∧ zadr P R i < 64 := ⟨Int.emod_nonneg _ (by decide), Int.emod_lt_of_pos _ (by decide)⟩
section ZY
variable {L : Nat} {M : zM} {P : zP} {s : zRS} {B : Nat → Prop}
theorem sp_isPlace {w k : Int} (hwI : zI w) (hk : zI k) : zf (zSh L) 2 kX3_isPlace [zvi w, zvi k] M (fun v M1 => v = some (.inl (zb (decide ((w = 0 ∧ 0 ≤ k ∧ k < 16) ∨ (w = 1 ∧ 0 ≤ k ∧ k < 64))))) ∧ M1 = M) := by
  refine zf_of rfl (Nat.le_of_ble_eq_true rfl) ?_
  repeat refine zr_s rfl rfl rfl ?_
  refine zr_zne rfl hwI (fun h => ?_) (fun h => ?_)
  · repeat refine zr_s rfl rfl rfl ?_
    refine zr_ine rfl hwI (by decide) (fun h2 => ?_) (fun h2 => ?_)
    · repeat refine zr_s rfl rfl rfl ?_
      exact zr_retz rfl (by omega) (⟨by rw [zb_f (by simp; omega)], rfl⟩)
    · repeat refine zr_s rfl rfl rfl ?_
      refine zr_zlt rfl hk (fun h3 => ?_) (fun h3 => ?_)
      · repeat refine zr_s rfl rfl rfl ?_
        exact zr_retz rfl (by omega) (⟨by rw [zb_f (by simp; omega)], rfl⟩)
      · repeat refine zr_s rfl rfl rfl ?_
        refine zr_ige rfl hk (by decide) (fun h4 => ?_) (fun h4 => ?_)
        · repeat refine zr_s rfl rfl rfl ?_
          exact zr_retz rfl (by omega) (⟨by rw [zb_f (by simp; omega)], rfl⟩)
        · repeat refine zr_s rfl rfl rfl ?_
          exact zr_retz rfl (by omega) (⟨by rw [zb_t (by simp; omega)], rfl⟩)
  · repeat refine zr_s rfl rfl rfl ?_
    refine zr_cr rfl rfl rfl (zf_mono (Nat.le_of_ble_eq_true rfl) (sp_isRegister hk)) ?_
    refine zr_retz rfl (zb_01 _) ⟨?_, rfl⟩
    by_cases hh : 0 ≤ k ∧ k < 16
    · rw [zb_t (by simp; omega), zb_t (by simp; omega)]
    · rw [zb_f (by simp; omega), zb_f (by simp; omega)]
theorem sp_tell {w k x : Int} (hwI : zI w) (hk : zI k) : zf (zSh L) 3 kX3_tell [zvr 26, zvi w, zvi k, zvi x] M (fun v M1 => (w = 0 ∧ 0 ≤ k ∧ k < 16 → v = some (.inl (M 27 k.toNat)) ∧ M1 = zup M 27 k.toNat x) ∧ (w = 1 ∧ 0 ≤ k ∧ k < 64 → v = some (.inl (M 28 k.toNat)) ∧ M1 = zup M 28 k.toNat x) ∧ (¬ ((w = 0 ∧ 0 ≤ k ∧ k < 16) ∨ (w = 1 ∧ 0 ≤ k ∧ k < 64)) → v = some (.inl 0) ∧ M1 = M)) := by
  refine zf_of rfl (Nat.le_of_ble_eq_true rfl) ?_
  repeat refine zr_s rfl rfl rfl ?_
  refine zr_cr rfl rfl rfl (zf_mono (Nat.le_of_ble_eq_true rfl) (sp_isPlace hwI hk)) ?_
  by_cases hh : (w = 0 ∧ 0 ≤ k ∧ k < 16) ∨ (w = 1 ∧ 0 ≤ k ∧ k < 64)
  · rw [zb_t (by simp; omega)]
    refine zr_zne rfl (by decide) (fun _ => ?_) (fun h => by cases h)
    repeat refine zr_s rfl rfl rfl ?_
    refine zr_zne rfl hwI (fun h => ?_) (fun h => ?_)
    · repeat refine zr_s rfl rfl rfl ?_
      refine zr_ald k.toNat rfl rfl (by omega) (by omega) (by decide) ?_
      repeat refine zr_s rfl rfl rfl ?_
      refine zr_ast k.toNat rfl rfl (by omega) (by omega) (by decide) ?_
      repeat refine zr_s rfl rfl rfl ?_
      exact zr_ret rfl (⟨fun z => by omega, fun _ => ⟨rfl, rfl⟩, fun z => by omega⟩)
    · repeat refine zr_s rfl rfl rfl ?_
      refine zr_ald k.toNat rfl rfl (by omega) (by omega) (by decide) ?_
      repeat refine zr_s rfl rfl rfl ?_
      refine zr_ast k.toNat rfl rfl (by omega) (by omega) (by decide) ?_
      repeat refine zr_s rfl rfl rfl ?_
      exact zr_ret rfl (⟨fun _ => ⟨rfl, rfl⟩, fun z => by omega, fun z => by omega⟩)
  · rw [zb_f (by simp; omega)]
    refine zr_zne rfl (by decide) (fun h => absurd rfl h) (fun _ => ?_)
    repeat refine zr_s rfl rfl rfl ?_
    exact zr_ret rfl (⟨fun z => by omega, fun z => by omega, fun _ => ⟨rfl, rfl⟩⟩)
theorem sp_look {w k : Int} (hwI : zI w) (hk : zI k) : zf (zSh L) 3 kX3_look [zvr 26, zvi w, zvi k] M (fun v M1 => M1 = M ∧ (w = 0 ∧ 0 ≤ k ∧ k < 16 → v = some (.inl (M 29 k.toNat))) ∧ (w = 1 ∧ 0 ≤ k ∧ k < 64 → v = some (.inl (M 30 k.toNat))) ∧ (¬ ((w = 0 ∧ 0 ≤ k ∧ k < 16) ∨ (w = 1 ∧ 0 ≤ k ∧ k < 64)) → v = some (.inl 0))) := by
  refine zf_of rfl (Nat.le_of_ble_eq_true rfl) ?_
  repeat refine zr_s rfl rfl rfl ?_
  refine zr_cr rfl rfl rfl (zf_mono (Nat.le_of_ble_eq_true rfl) (sp_isPlace hwI hk)) ?_
  by_cases hh : (w = 0 ∧ 0 ≤ k ∧ k < 16) ∨ (w = 1 ∧ 0 ≤ k ∧ k < 64)
  · rw [zb_t (by simp; omega)]
    refine zr_zne rfl (by decide) (fun _ => ?_) (fun h => by cases h)
    repeat refine zr_s rfl rfl rfl ?_
    refine zr_zne rfl hwI (fun h => ?_) (fun h => ?_)
    · repeat refine zr_s rfl rfl rfl ?_
      refine zr_ald k.toNat rfl rfl (by omega) (by omega) (by decide) ?_
      repeat refine zr_s rfl rfl rfl ?_
      exact zr_ret rfl (⟨rfl, fun z => by omega, fun _ => rfl, fun z => by omega⟩)
    · repeat refine zr_s rfl rfl rfl ?_
      refine zr_ald k.toNat rfl rfl (by omega) (by omega) (by decide) ?_
      repeat refine zr_s rfl rfl rfl ?_
      exact zr_ret rfl (⟨rfl, fun _ => rfl, fun z => by omega, fun z => by omega⟩)
  · rw [zb_f (by simp; omega)]
    refine zr_zne rfl (by decide) (fun h => absurd rfl h) (fun _ => ?_)
    repeat refine zr_s rfl rfl rfl ?_
    exact zr_ret rfl (⟨rfl, fun z => by omega, fun z => by omega, fun _ => rfl⟩)
theorem sp_startAnew : zf (zSh L) 1 kX3_startAnew [zvr 26] M (fun v M1 => v = none ∧ (∀ a, a ≠ 29 → a ≠ 30 → M1 a = M a) ∧ (∀ k, k < 16 → M1 29 k = M 27 k) ∧ ∀ k, k < 64 → M1 30 k = M 28 k) := by
  refine zf_of rfl (Nat.le_of_ble_eq_true rfl) ?_
  repeat refine zr_s rfl rfl rfl ?_
  have hz : (zw 0).toNat = 0 := by decide
  have h16 : (zw 16).toNat = 16 := by decide
  have h64 : (zw 64).toNat = 64 := by decide
  rw [hz, h16, h64]
  refine zr_retv rfl ⟨rfl, fun a h1 h2 => ?_, fun k hk => ?_, fun k hk => ?_⟩
  · funext q
    unfold zcopy
    rw [if_neg (fun z => h2 z.1), if_neg (fun z => h1 z.1)]
  · unfold zcopy
    rw [if_neg (fun z => by omega), if_pos ⟨rfl, by omega, by omega⟩, Nat.zero_add, Nat.sub_zero]
  · unfold zcopy
    rw [if_pos ⟨rfl, by omega, by omega⟩, if_neg (fun z => by omega), Nat.zero_add, Nat.sub_zero]
theorem sp_begin {i : Nat} (hB : zBk M P) (hw : zWf P) (hi : i < pn P) (hR : zRu M P s B) : zf (zSh L) 2 kX3_begin [zvr 26, zvi i] M (fun v M1 => v = none ∧ (∀ a, a ≠ 31 → a ≠ 32 → M1 a = M a) ∧ zRu M1 P (zbeg P s i) (fun j => B j ∨ j = i)) := by
  have h60 := hw.1
  obtain ⟨hk, ht, ha, hb, hc⟩ := hB.2.2.2 i hi
  obtain ⟨hk7, ht16, ha16, hb16, hcI⟩ := hw.2.2.2.2 i hi
  have hadr := zadr_I P s.1 i
  have fin : ∀ (x : Int), x = zres P s.1 s.2.1 i → (∀ a, a ≠ 31 → a ≠ 32 → zup (zup M 32 i (zadr P s.1 i)) 31 i x a = M a) ∧ zRu (zup (zup M 32 i (zadr P s.1 i)) 31 i x) P (zbeg P s i) (fun j => B j ∨ j = i) := by
    intro x hx
    have hrow : ∀ a, a ≠ 31 → a ≠ 32 → zup (zup M 32 i (zadr P s.1 i)) 31 i x a = M a := fun a h1 h2 => by rw [zup_row h1, zup_row h2]
    refine ⟨hrow, fun k hk => by rw [hrow 29 (by decide) (by decide)]; exact hR.1 k hk, fun k hk => by rw [hrow 30 (by decide) (by decide)]; exact hR.2.1 k hk, fun j hj hBj => ?_⟩
    rw [zup_row (a := 32) (by decide)]
    by_cases hji : j = i
    · subst hji
      rw [zup_at, zup_at]
      show x = zfu _ j _ j ∧ _ = zfu _ j _ j ∧ 0 ≤ zfu _ j _ j ∧ zfu _ j _ j < 64
      rw [zfu_at, zfu_at]
      exact ⟨hx, rfl, hadr.1, hadr.2⟩
    · rw [zup_off hji, zup_off hji, zup_row (by decide)]
      show _ = zfu _ i _ j ∧ _ = zfu _ i _ j ∧ 0 ≤ zfu _ i _ j ∧ zfu _ i _ j < 64
      rw [zfu_off hji, zfu_off hji]
      rcases hBj with h | h
      · exact hR.2.2 j hj h
      · exact absurd h hji
  refine zf_of rfl (Nat.le_of_ble_eq_true rfl) ?_
  repeat refine zr_s rfl rfl rfl ?_
  refine zr_ald (i) rfl rfl rfl (by omega) (by decide) ?_
  rw [ha]
  refine zr_ald (pA P i) rfl rfl rfl (by omega) (by decide) ?_
  rw [hR.1 _ ha16]
  repeat refine zr_s rfl rfl rfl ?_
  refine zr_ald (i) rfl rfl rfl (by omega) (by decide) ?_
  rw [hb]
  refine zr_ald (pB P i) rfl rfl rfl (by omega) (by decide) ?_
  rw [hR.1 _ hb16]
  repeat refine zr_s rfl rfl rfl ?_
  refine zr_ald (i) rfl rfl rfl (by omega) (by decide) ?_
  rw [hc]
  repeat refine zr_s rfl rfl rfl ?_
  refine zr_cr rfl rfl rfl (zf_mono (Nat.le_of_ble_eq_true rfl) (sp_floorMod)) ?_
  refine zr_ast (i) rfl rfl rfl (by omega) (by decide) ?_
  have e3 : zup M 32 i (zadr P s.1 i) 3 = M 3 := zup_row (by decide)
  repeat refine zr_s rfl rfl rfl ?_
  refine zr_ald i rfl rfl rfl (by omega) (by decide) ?_
  show zr _ _ _ _ _ (.inl (zup M 32 i (zadr P s.1 i) 3 i) :: _) (zup M 32 i (zadr P s.1 i)) _
  rw [e3, hk]
  rcases (show pK P i = 0 ∨ pK P i = 1 ∨ pK P i = 2 ∨ pK P i = 3 ∨ pK P i = 4 ∨ pK P i = 5 ∨ pK P i = 6 by omega) with h | h | h | h | h | h | h
  · rw [h]
    refine zr_tabIn 39 rfl (by decide) (by decide) (by decide) rfl ?_
    repeat refine zr_s rfl rfl rfl ?_
    refine zr_ast (i) rfl rfl rfl (by omega) (by decide) ?_
    repeat refine zr_s rfl rfl rfl ?_
    exact zr_retv rfl (⟨rfl, fin _ (by simp [zres, h])⟩)
  · rw [h]
    refine zr_tabIn 50 rfl (by decide) (by decide) (by decide) rfl ?_
    repeat refine zr_s rfl rfl rfl ?_
    refine zr_ast (i) rfl rfl rfl (by omega) (by decide) ?_
    repeat refine zr_s rfl rfl rfl ?_
    exact zr_retv rfl (⟨rfl, fin _ (by simp [zres, h])⟩)
  · rw [h]
    refine zr_tabIn 62 rfl (by decide) (by decide) (by decide) rfl ?_
    repeat refine zr_s rfl rfl rfl ?_
    refine zr_ast (i) rfl rfl rfl (by omega) (by decide) ?_
    repeat refine zr_s rfl rfl rfl ?_
    exact zr_retv rfl (⟨rfl, fin _ (by simp [zres, h])⟩)
  · rw [h]
    refine zr_tabIn 74 rfl (by decide) (by decide) (by decide) rfl ?_
    repeat refine zr_s rfl rfl rfl ?_
    refine zr_ast (i) rfl rfl rfl (by omega) (by decide) ?_
    repeat refine zr_s rfl rfl rfl ?_
    exact zr_retv rfl (⟨rfl, fin _ (by simp [zres, h])⟩)
  · rw [h]
    refine zr_tabIn 86 rfl (by decide) (by decide) (by decide) rfl ?_
    repeat refine zr_s rfl rfl rfl ?_
    refine zr_ige_w rfl (fun h2 => ?_) (fun h2 => ?_)
    · repeat refine zr_s rfl rfl rfl ?_
      refine zr_ast (i) rfl rfl rfl (by omega) (by decide) ?_
      repeat refine zr_s rfl rfl rfl ?_
      exact zr_retv rfl (⟨rfl, fin _ (by simp [zres, h, h2])⟩)
    · repeat refine zr_s rfl rfl rfl ?_
      refine zr_ast (i) rfl rfl rfl (by omega) (by decide) ?_
      repeat refine zr_s rfl rfl rfl ?_
      exact zr_retv rfl (⟨rfl, fin _ (by simp [zres, h, h2])⟩)
  · rw [h]
    refine zr_tabIn 105 rfl (by decide) (by decide) (by decide) rfl ?_
    repeat refine zr_s rfl rfl rfl ?_
    refine zr_ald i rfl rfl rfl (by omega) (by decide) ?_
    rw [zup_at]
    have e30 : zup M 32 i (zadr P s.1 i) 30 = M 30 := zup_row (by decide)
    refine zr_ald (zadr P s.1 i).toNat rfl rfl (by show zadr P s.1 i = _; omega) (by omega) (by decide) ?_
    show zr _ _ _ _ _ (.inl (zup M 32 i (zadr P s.1 i) 30 (zadr P s.1 i).toNat) :: _) (zup M 32 i (zadr P s.1 i)) _
    rw [e30, hR.2.1 _ (by omega)]
    refine zr_ast (i) rfl rfl rfl (by omega) (by decide) ?_
    repeat refine zr_s rfl rfl rfl ?_
    exact zr_retv rfl (⟨rfl, fin _ (by simp [zres, h])⟩)
  · rw [h]
    refine zr_tabOut rfl (by decide) (by decide) ?_
    repeat refine zr_s rfl rfl rfl ?_
    refine zr_ast (i) rfl rfl rfl (by omega) (by decide) ?_
    repeat refine zr_s rfl rfl rfl ?_
    exact zr_retv rfl (⟨rfl, fin _ (by simp [zres, h])⟩)
theorem sp_come {i : Nat} (hB : zBk M P) (hw : zWf P) (hi : i < pn P) (hR : zRu M P s B) (hBi : B i) : zf (zSh L) 1 kX3_come [zvr 26, zvi i] M (fun v M1 => v = none ∧ (∀ a, a ≠ 29 → a ≠ 30 → M1 a = M a) ∧ zRu M1 P (zcom P s i) B) := by
  have h60 := hw.1
  obtain ⟨hk, ht, ha, hb, hc⟩ := hB.2.2.2 i hi
  obtain ⟨hk7, ht16, ha16, hb16, hcI⟩ := hw.2.2.2.2 i hi
  obtain ⟨q1, q2, q3, q4⟩ := hR.2.2 i hi hBi
  refine zf_of rfl (Nat.le_of_ble_eq_true rfl) ?_
  repeat refine zr_s rfl rfl rfl ?_
  refine zr_ald (i) rfl rfl rfl (by omega) (by decide) ?_
  rw [hk]
  repeat refine zr_s rfl rfl rfl ?_
  refine zr_ine rfl (by omega) (by decide) (fun h => ?_) (fun h => ?_)
  · have h6 : pK P i ≠ 6 := by omega
    repeat refine zr_s rfl rfl rfl ?_
    refine zr_ald (i) rfl rfl rfl (by omega) (by decide) ?_
    rw [ht]
    repeat refine zr_s rfl rfl rfl ?_
    refine zr_ald (i) rfl rfl rfl (by omega) (by decide) ?_
    rw [q1]
    refine zr_ast (pT P i) rfl rfl rfl (by omega) (by decide) ?_
    repeat refine zr_s rfl rfl rfl ?_
    refine zr_retv rfl ⟨rfl, fun a h1 h2 => zup_row h1, ?_⟩
    have e : zcom P s i = (zfu s.1 (pT P i) (s.2.2.1 i), s.2.1, s.2.2) := if_neg h6
    rw [e]
    refine ⟨fun k hk => ?_, fun k hk => by rw [zup_row (by decide)]; exact hR.2.1 k hk, fun j hj hBj => by rw [zup_row (by decide), zup_row (by decide)]; exact hR.2.2 j hj hBj⟩
    show _ = zfu s.1 (pT P i) (s.2.2.1 i) k
    by_cases hkt : k = pT P i
    · rw [hkt, zup_at, zfu_at]
    · rw [zup_off hkt, zfu_off hkt]
      exact hR.1 k hk
  · have h6 : pK P i = 6 := by omega
    repeat refine zr_s rfl rfl rfl ?_
    refine zr_ald (i) rfl rfl rfl (by omega) (by decide) ?_
    rw [q2]
    repeat refine zr_s rfl rfl rfl ?_
    refine zr_ald (i) rfl rfl rfl (by omega) (by decide) ?_
    rw [q1]
    refine zr_ast (s.2.2.2 i).toNat rfl rfl (by omega) (by omega) (by decide) ?_
    repeat refine zr_s rfl rfl rfl ?_
    refine zr_retv rfl ⟨rfl, fun a h1 h2 => zup_row h2, ?_⟩
    have e : zcom P s i = (s.1, zfu s.2.1 (s.2.2.2 i).toNat (s.2.2.1 i), s.2.2) := if_pos h6
    rw [e]
    refine ⟨fun k hk => by rw [zup_row (by decide)]; exact hR.1 k hk, fun k hk => ?_, fun j hj hBj => by rw [zup_row (by decide), zup_row (by decide)]; exact hR.2.2 j hj hBj⟩
    show _ = zfu s.2.1 (s.2.2.2 i).toNat (s.2.2.1 i) k
    by_cases hkt : k = (s.2.2.2 i).toNat
    · rw [hkt, zup_at, zfu_at]
    · rw [zup_off hkt, zfu_off hkt]
      exact hR.2.1 k hk
end ZY
