/-! THE CLASS'S CALLS: add, cut, latency, units, place, wrong, given, value -/
section ZX
variable {L : Nat} {M : zM} {P : zP} {A : zA}
theorem sp_namesRegistersOnly {k d a b : Int} (hk : zI k) (hd : zI d) (ha : zI a) (hb : zI b) : zf (zSh L) 2 kX7_namesRegistersOnly [zvi k, zvi d, zvi a, zvi b] M (fun v M1 => v = some (.inl (zb (decide ((k = 6 ∨ (0 ≤ d ∧ d < 16)) ∧ (k = 0 ∨ (0 ≤ a ∧ a < 16)) ∧ (k = 0 ∨ k = 5 ∨ (0 ≤ b ∧ b < 16)))))) ∧ M1 = M) := by
  have no : ¬ ((k = 6 ∨ (0 ≤ d ∧ d < 16)) ∧ (k = 0 ∨ (0 ≤ a ∧ a < 16)) ∧ (k = 0 ∨ k = 5 ∨ (0 ≤ b ∧ b < 16))) → zr (zSh L) 1 tX7_namesRegistersOnly 46 [some (zvi k), some (zvi d), some (zvi a), some (zvi b)] [] M (fun v M1 => v = some (.inl (zb (decide ((k = 6 ∨ (0 ≤ d ∧ d < 16)) ∧ (k = 0 ∨ (0 ≤ a ∧ a < 16)) ∧ (k = 0 ∨ k = 5 ∨ (0 ≤ b ∧ b < 16)))))) ∧ M1 = M) := by
    intro h
    repeat refine zr_s rfl rfl rfl ?_
    exact zr_retz rfl (by omega) (⟨by rw [zb_f (by simpa using h)], rfl⟩)
  have yes : ((k = 6 ∨ (0 ≤ d ∧ d < 16)) ∧ (k = 0 ∨ (0 ≤ a ∧ a < 16)) ∧ (k = 0 ∨ k = 5 ∨ (0 ≤ b ∧ b < 16))) → zr (zSh L) 1 tX7_namesRegistersOnly 42 [some (zvi k), some (zvi d), some (zvi a), some (zvi b)] [] M (fun v M1 => v = some (.inl (zb (decide ((k = 6 ∨ (0 ≤ d ∧ d < 16)) ∧ (k = 0 ∨ (0 ≤ a ∧ a < 16)) ∧ (k = 0 ∨ k = 5 ∨ (0 ≤ b ∧ b < 16)))))) ∧ M1 = M) := by
    intro h
    repeat refine zr_s rfl rfl rfl ?_
    exact zr_retz rfl (by omega) (⟨by rw [zb_t (by simpa using h)], rfl⟩)
  have third : (k = 6 ∨ (0 ≤ d ∧ d < 16)) → (k = 0 ∨ (0 ≤ a ∧ a < 16)) → zr (zSh L) 1 tX7_namesRegistersOnly 28 [some (zvi k), some (zvi d), some (zvi a), some (zvi b)] [] M (fun v M1 => v = some (.inl (zb (decide ((k = 6 ∨ (0 ≤ d ∧ d < 16)) ∧ (k = 0 ∨ (0 ≤ a ∧ a < 16)) ∧ (k = 0 ∨ k = 5 ∨ (0 ≤ b ∧ b < 16)))))) ∧ M1 = M) := by
    intro h1 h2
    repeat refine zr_s rfl rfl rfl ?_
    refine zr_cr rfl rfl rfl (zf_mono (Nat.le_of_ble_eq_true rfl) (sp_namesSecond hk)) ?_
    by_cases h5 : k ≠ 0 ∧ k ≠ 5
    · rw [zb_t (by simpa using h5)]
      refine zr_zeq rfl (by decide) (fun h => by cases h) (fun _ => ?_)
      repeat refine zr_s rfl rfl rfl ?_
      refine zr_cr rfl rfl rfl (zf_mono (Nat.le_of_ble_eq_true rfl) (sp_isRegister hb)) ?_
      by_cases h6 : 0 ≤ b ∧ b < 16
      · rw [zb_t (by simpa using h6)]
        refine zr_zeq rfl (by decide) (fun h => by cases h) (fun _ => ?_)
        exact yes ⟨h1, h2, Or.inr (Or.inr h6)⟩
      · rw [zb_f (by simpa using h6)]
        refine zr_zeq rfl (by decide) (fun _ => ?_) (fun h => absurd rfl h)
        exact no (by omega)
    · rw [zb_f (by simp; omega)]
      refine zr_zeq rfl (by decide) (fun _ => ?_) (fun h => absurd rfl h)
      exact yes ⟨h1, h2, by omega⟩
  have second : (k = 6 ∨ (0 ≤ d ∧ d < 16)) → zr (zSh L) 1 tX7_namesRegistersOnly 14 [some (zvi k), some (zvi d), some (zvi a), some (zvi b)] [] M (fun v M1 => v = some (.inl (zb (decide ((k = 6 ∨ (0 ≤ d ∧ d < 16)) ∧ (k = 0 ∨ (0 ≤ a ∧ a < 16)) ∧ (k = 0 ∨ k = 5 ∨ (0 ≤ b ∧ b < 16)))))) ∧ M1 = M) := by
    intro h1
    repeat refine zr_s rfl rfl rfl ?_
    refine zr_cr rfl rfl rfl (zf_mono (Nat.le_of_ble_eq_true rfl) (sp_namesFirst hk)) ?_
    by_cases h5 : k ≠ 0
    · rw [zb_t (by simpa using h5)]
      refine zr_zeq rfl (by decide) (fun h => by cases h) (fun _ => ?_)
      repeat refine zr_s rfl rfl rfl ?_
      refine zr_cr rfl rfl rfl (zf_mono (Nat.le_of_ble_eq_true rfl) (sp_isRegister ha)) ?_
      by_cases h6 : 0 ≤ a ∧ a < 16
      · rw [zb_t (by simpa using h6)]
        refine zr_zeq rfl (by decide) (fun h => by cases h) (fun _ => ?_)
        exact third h1 (Or.inr h6)
      · rw [zb_f (by simpa using h6)]
        refine zr_zeq rfl (by decide) (fun _ => ?_) (fun h => absurd rfl h)
        exact no (by omega)
    · rw [zb_f (by simp; omega)]
      refine zr_zeq rfl (by decide) (fun _ => ?_) (fun h => absurd rfl h)
      exact third h1 (by omega)
  refine zf_of rfl (Nat.le_of_ble_eq_true rfl) ?_
  repeat refine zr_s rfl rfl rfl ?_
  refine zr_cr rfl rfl rfl (zf_mono (Nat.le_of_ble_eq_true rfl) (sp_namesTarget hk)) ?_
  by_cases h5 : k ≠ 6
  · rw [zb_t (by simpa using h5)]
    refine zr_zeq rfl (by decide) (fun h => by cases h) (fun _ => ?_)
    repeat refine zr_s rfl rfl rfl ?_
    refine zr_cr rfl rfl rfl (zf_mono (Nat.le_of_ble_eq_true rfl) (sp_isRegister hd)) ?_
    by_cases h6 : 0 ≤ d ∧ d < 16
    · rw [zb_t (by simpa using h6)]
      refine zr_zeq rfl (by decide) (fun h => by cases h) (fun _ => ?_)
      exact second (Or.inr h6)
    · rw [zb_f (by simpa using h6)]
      refine zr_zeq rfl (by decide) (fun _ => ?_) (fun h => absurd rfl h)
      exact no (by omega)
  · rw [zb_f (by simp; omega)]
    refine zr_zeq rfl (by decide) (fun _ => ?_) (fun h => absurd rfl h)
    exact second (by omega)
theorem sp_append {k d a b c : Int} {n : Nat} (hn : M 2 6 = n) (h60 : n < 60) (hk : zI k) : zf (zSh L) 2 kX0_append [zvr 2, zvi k, zvi d, zvi a, zvi b, zvi c] M (fun v M1 => v = some (.inl (n : Int)) ∧ M1 = zup (zup (zup (zup (zup (zup M 3 n k) 4 n (if k = 6 then 0 else d)) 5 n (if k = 0 then 0 else a)) 6 n (if k = 0 ∨ k = 5 then 0 else b)) 7 n c) 2 6 ((n : Int) + 1)) := by
  refine zf_of rfl (Nat.le_of_ble_eq_true rfl) ?_
  repeat refine zr_s rfl rfl rfl ?_
  rw [hn]
  refine zr_ast (n) rfl rfl rfl (by omega) (by decide) ?_
  have s3 : ∀ (N : zM) (x : Int), N 2 6 = n → x = (if k = 0 ∨ k = 5 then 0 else b) → N = zup (zup (zup M 3 n k) 4 n (if k = 6 then 0 else d)) 5 n (if k = 0 then 0 else a) → zr (zSh L) 1 tX0_append 71 [some (zvr 2), some (zvi k), some (zvi d), some (zvi a), some (zvi b), some (zvi c), some (zvi n)] [zvi x, zvi n, zvr 6] N (fun v M1 => v = some (.inl (n : Int)) ∧ M1 = zup (zup (zup (zup (zup (zup M 3 n k) 4 n (if k = 6 then 0 else d)) 5 n (if k = 0 then 0 else a)) 6 n (if k = 0 ∨ k = 5 then 0 else b)) 7 n c) 2 6 ((n : Int) + 1)) := by
    intro N x hN hx hE
    refine zr_ast (n) rfl rfl rfl (by omega) (by decide) ?_
    repeat refine zr_s rfl rfl rfl ?_
    refine zr_ast (n) rfl rfl rfl (by omega) (by decide) ?_
    repeat refine zr_s rfl rfl rfl ?_
    have e : zup (zup N 6 n x) 7 n c 2 6 = n := by rw [zup_row (by decide), zup_row (by decide)]; exact hN
    rw [e]
    exact zr_ret rfl (⟨rfl, by rw [hx, hE]⟩)
  have s2 : ∀ (N : zM) (x : Int), N 2 6 = n → x = (if k = 0 then 0 else a) → N = zup (zup M 3 n k) 4 n (if k = 6 then 0 else d) → zr (zSh L) 1 tX0_append 51 [some (zvr 2), some (zvi k), some (zvi d), some (zvi a), some (zvi b), some (zvi c), some (zvi n)] [zvi x, zvi n, zvr 5] N (fun v M1 => v = some (.inl (n : Int)) ∧ M1 = zup (zup (zup (zup (zup (zup M 3 n k) 4 n (if k = 6 then 0 else d)) 5 n (if k = 0 then 0 else a)) 6 n (if k = 0 ∨ k = 5 then 0 else b)) 7 n c) 2 6 ((n : Int) + 1)) := by
    intro N x hN hx hE
    refine zr_ast (n) rfl rfl rfl (by omega) (by decide) ?_
    repeat refine zr_s rfl rfl rfl ?_
    refine zr_cr rfl rfl rfl (zf_mono (Nat.le_of_ble_eq_true rfl) (sp_namesSecond hk)) ?_
    by_cases h5 : k ≠ 0 ∧ k ≠ 5
    · rw [zb_t (by simpa using h5)]
      refine zr_zeq rfl (by decide) (fun h => by cases h) (fun _ => ?_)
      repeat refine zr_t 71 rfl rfl rfl rfl ?_
      exact s3 _ b (by rw [zup_row (by decide)]; exact hN) (by rw [if_neg (by omega)]) (by rw [hx, hE])
    · rw [zb_f (by simp; omega)]
      refine zr_zeq rfl (by decide) (fun _ => ?_) (fun h => absurd rfl h)
      repeat refine zr_t 71 rfl rfl rfl rfl ?_
      exact s3 _ 0 (by rw [zup_row (by decide)]; exact hN) (by rw [if_pos (by omega)]) (by rw [hx, hE])
  have s1 : ∀ (x : Int), x = (if k = 6 then 0 else d) → zr (zSh L) 1 tX0_append 32 [some (zvr 2), some (zvi k), some (zvi d), some (zvi a), some (zvi b), some (zvi c), some (zvi n)] [zvi x, zvi n, zvr 4] (zup M 3 n k) (fun v M1 => v = some (.inl (n : Int)) ∧ M1 = zup (zup (zup (zup (zup (zup M 3 n k) 4 n (if k = 6 then 0 else d)) 5 n (if k = 0 then 0 else a)) 6 n (if k = 0 ∨ k = 5 then 0 else b)) 7 n c) 2 6 ((n : Int) + 1)) := by
    intro x hx
    refine zr_ast (n) rfl rfl rfl (by omega) (by decide) ?_
    repeat refine zr_s rfl rfl rfl ?_
    refine zr_cr rfl rfl rfl (zf_mono (Nat.le_of_ble_eq_true rfl) (sp_namesFirst hk)) ?_
    have hN : zup (zup M 3 n k) 4 n x 2 6 = n := by rw [zup_row (by decide), zup_row (by decide)]; exact hn
    by_cases h5 : k ≠ 0
    · rw [zb_t (by simpa using h5)]
      refine zr_zeq rfl (by decide) (fun h => by cases h) (fun _ => ?_)
      repeat refine zr_t 51 rfl rfl rfl rfl ?_
      exact s2 _ a hN (by rw [if_neg h5]) (by rw [hx])
    · rw [zb_f (by simp; omega)]
      refine zr_zeq rfl (by decide) (fun _ => ?_) (fun h => absurd rfl h)
      repeat refine zr_t 51 rfl rfl rfl rfl ?_
      exact s2 _ 0 hN (by rw [if_pos (by omega)]) (by rw [hx])
  repeat refine zr_s rfl rfl rfl ?_
  refine zr_cr rfl rfl rfl (zf_mono (Nat.le_of_ble_eq_true rfl) (sp_namesTarget hk)) ?_
  by_cases h5 : k ≠ 6
  · rw [zb_t (by simpa using h5)]
    refine zr_zeq rfl (by decide) (fun h => by cases h) (fun _ => ?_)
    repeat refine zr_t 32 rfl rfl rfl rfl ?_
    exact s1 d (by rw [if_neg h5])
  · rw [zb_f (by simp; omega)]
    refine zr_zeq rfl (by decide) (fun _ => ?_) (fun h => absurd rfl h)
    repeat refine zr_t 32 rfl rfl rfl rfl ?_
    exact s1 0 (by rw [if_pos (by omega)])
theorem zadd_wf {k d a b c : Int} (hw : zWf P) (hn : pn P < 60) (hg : zgood' k d a b) (hc : zI c) : zWf (zadd P k d a b c) := by
  obtain ⟨h1, h2, h3, h4, h5⟩ := hw
  obtain ⟨g1, g2, g3, g4⟩ := hg
  refine ⟨by show pn P + 1 ≤ 60; omega, h2, h3, h4, fun i hi => ?_⟩
  have hi : i < pn P + 1 := hi
  show zfn (pK P) (pn P) k.toNat i < 7 ∧ zfn (pT P) (pn P) (if k = 6 then 0 else d.toNat) i < 16 ∧ zfn (pA P) (pn P) (if k = 0 then 0 else a.toNat) i < 16 ∧ zfn (pB P) (pn P) (if k = 0 ∨ k = 5 then 0 else b.toNat) i < 16 ∧ zI (zfu (pC P) (pn P) c i)
  unfold zfn zfu
  unfold zisR at g2 g3 g4
  by_cases hin : i = pn P
  · rw [if_pos hin, if_pos hin, if_pos hin, if_pos hin, if_pos hin]
    refine ⟨by omega, ?_, ?_, ?_, hc⟩
    · split <;> omega
    · split <;> omega
    · split <;> omega
  · rw [if_neg hin, if_neg hin, if_neg hin, if_neg hin, if_neg hin]
    exact h5 i (by omega)
/-- another block: what must be so for the class's state to stand, with 'stale' set -/
theorem zCI_stale {M1 : zM} {P1 : zP} (hC : zCI M P) (hB : zBk M1 P1) (hw : zWf P1) (h33 : M1 33 = M 33) (h25 : ∀ i, i < pn P1 → M1 25 i = -3 ∨ (0 ≤ M1 25 i ∧ M1 25 i ≤ 1000)) (h25b : ∀ i, pn P1 ≤ i → i < 60 → M1 25 i = -3) (h19 : M1 19 = M 19) (h21 : M1 21 = M 21) (h9 : M1 1 9 = 1) (h10 : M1 1 10 = M 1 10) : zCI M1 P1 := by
  obtain ⟨-, -, c3, c4, c5, c6, c7, c8, c9, c10, c11⟩ := hC
  exact ⟨hB, hw, by rw [h33]; exact c3, h25, h25b, by rw [h19]; exact c6, by rw [h21]; exact c7, Or.inr h9, by rw [h10]; exact c9, fun h => by omega, fun h => by omega⟩
theorem sp_C_add {k d a b c : Int} (hA : zCS M A) (hk : zI k) (hd : zI d) (ha : zI a) (hb : zI b) (hc : zI c) : zf (zSh L) 3 kX7_add [zvr 1, zvi k, zvi d, zvi a, zvi b, zvi c] M (fun v M1 => v = some (.inl (zs_add A k d a b c).1) ∧ zCS M1 (zs_add A k d a b c).2 ∧ zFC M M1) := by
  have hA0 := hA
  obtain ⟨hC, g2, g3, g4, g5, g6, g7, g8⟩ := hA
  have hC0 := hC
  obtain ⟨hB, hw, c3, c4, c5, c6, c7, c8, c9, c10, c11⟩ := hC
  have h60 := hw.1
  have hn := hB.1
  have bad : ¬ zgood' k d a b → zs_add A k d a b c = (-1, A) := fun h => by unfold zs_add; rw [if_neg h]
  refine zf_of rfl (Nat.le_of_ble_eq_true rfl) ?_
  repeat refine zr_s rfl rfl rfl ?_
  refine zr_cr rfl rfl rfl (zf_mono (Nat.le_of_ble_eq_true rfl) (sp_isKind hk)) ?_
  by_cases h1 : 0 ≤ k ∧ k < 7
  rotate_left
  · rw [zb_f (by simpa using h1)]
    refine zr_zeq rfl (by decide) (fun _ => ?_) (fun h => absurd rfl h)
    repeat refine zr_s rfl rfl rfl ?_
    refine zr_ret rfl ?_
    rw [bad (fun z => h1 z.1)]
    exact ⟨rfl, hA0, rfl, fun _ _ => rfl⟩
  rw [zb_t (by simpa using h1)]
  refine zr_zeq rfl (by decide) (fun h => by cases h) (fun _ => ?_)
  repeat refine zr_s rfl rfl rfl ?_
  refine zr_cr rfl rfl rfl (zf_mono (Nat.le_of_ble_eq_true rfl) (sp_namesRegistersOnly hk hd ha hb)) ?_
  by_cases h2 : (k = 6 ∨ (0 ≤ d ∧ d < 16)) ∧ (k = 0 ∨ (0 ≤ a ∧ a < 16)) ∧ (k = 0 ∨ k = 5 ∨ (0 ≤ b ∧ b < 16))
  rotate_left
  · rw [zb_f (by simpa using h2)]
    refine zr_zne rfl (by decide) (fun h => absurd rfl h) (fun _ => ?_)
    repeat refine zr_s rfl rfl rfl ?_
    refine zr_ret rfl ?_
    rw [bad (fun z => h2 z.2)]
    exact ⟨rfl, hA0, rfl, fun _ _ => rfl⟩
  rw [zb_t (by simpa using h2)]
  refine zr_zne rfl (by decide) (fun _ => ?_) (fun h => by cases h)
  have hg : zgood' k d a b := ⟨h1, h2⟩
  have good : zs_add A k d a b c = if pn A.1 = 60 then (-2, A) else ((pn A.1 : Int), (zadd A.1 k d a b c, zfu A.2.1 (pn A.1) (-3), A.2.2)) := by unfold zs_add; rw [if_pos hg]
  rw [good]
  repeat refine zr_s rfl rfl rfl ?_
  refine zr_ilt rfl (by omega) (by decide) (fun h3 => ?_) (fun h3 => ?_)
  rotate_left
  · repeat refine zr_s rfl rfl rfl ?_
    refine zr_ret rfl ?_
    rw [if_pos (by omega)]
    exact ⟨rfl, hA0, rfl, fun _ _ => rfl⟩
  rw [if_neg (by omega)]
  repeat refine zr_s rfl rfl rfl ?_
  refine zr_c rfl rfl rfl (zf_mono (Nat.le_of_ble_eq_true rfl) (sp_append (M := zup M 1 9 1) (n := pn A.1) (by rw [zup_row (by decide)]; exact hn) (by omega) hk)) (fun v M1 hv => ?_)
  obtain ⟨rfl, rfl⟩ := hv
  generalize hN : zup (zup (zup (zup (zup (zup (zup M 1 9 1) 3 (pn A.1) k) 4 (pn A.1) (if k = 6 then 0 else d)) 5 (pn A.1) (if k = 0 then 0 else a)) 6 (pn A.1) (if k = 0 ∨ k = 5 then 0 else b)) 7 (pn A.1) c) 2 6 ((pn A.1 : Int) + 1) = N
  have row : ∀ q, q ≠ 1 → (q < 2 ∨ 7 < q) → N q = M q := by
    intro q h5 h6
    rw [← hN, zup_row (by omega), zup_row (by omega), zup_row (by omega), zup_row (by omega), zup_row (by omega), zup_row (by omega), zup_row (by omega)]
  have r1 : N 1 = zup M 1 9 1 1 := by
    rw [← hN, zup_row (by omega), zup_row (by omega), zup_row (by omega), zup_row (by omega), zup_row (by omega), zup_row (by omega)]
  have hBN : zBk N (zadd A.1 k d a b c) := by
    obtain ⟨-, b2, b3, b4⟩ := hB
    refine ⟨?_, ?_, fun q hq => ?_, fun i hi => ?_⟩
    · show N 2 6 = ((pn A.1 + 1 : Nat) : Int)
      rw [← hN, zup_at]
      push_cast
      rfl
    · show N 2 7 = (pu A.1 : Int)
      rw [← hN, zup_off (by decide), zup_row (by omega), zup_row (by omega), zup_row (by omega), zup_row (by omega), zup_row (by omega), zup_row (by omega)]
      exact b2
    · rw [row 8 (by omega) (by omega)]
      exact b3 q hq
    · have hi : i < pn A.1 + 1 := hi
      have x3 : N 3 i = if i = pn A.1 then k else M 3 i := by
        rw [← hN, zup_row (by omega), zup_row (by omega), zup_row (by omega), zup_row (by omega), zup_row (by omega)]
        split
        · rename_i h; rw [h, zup_at]
        · rename_i h; rw [zup_off h, zup_row (by omega)]
      have x4 : N 4 i = if i = pn A.1 then (if k = 6 then 0 else d) else M 4 i := by
        rw [← hN, zup_row (by omega), zup_row (by omega), zup_row (by omega), zup_row (by omega)]
        by_cases h : i = pn A.1
        · rw [if_pos h, h, zup_at]
        · rw [if_neg h, zup_off h, zup_row (by omega), zup_row (by omega)]
      have x5 : N 5 i = if i = pn A.1 then (if k = 0 then 0 else a) else M 5 i := by
        rw [← hN, zup_row (by omega), zup_row (by omega), zup_row (by omega)]
        by_cases h : i = pn A.1
        · rw [if_pos h, h, zup_at]
        · rw [if_neg h, zup_off h, zup_row (by omega), zup_row (by omega), zup_row (by omega)]
      have x6 : N 6 i = if i = pn A.1 then (if k = 0 ∨ k = 5 then 0 else b) else M 6 i := by
        rw [← hN, zup_row (by omega), zup_row (by omega)]
        by_cases h : i = pn A.1
        · rw [if_pos h, h, zup_at]
        · rw [if_neg h, zup_off h, zup_row (by omega), zup_row (by omega), zup_row (by omega), zup_row (by omega)]
      have x7 : N 7 i = if i = pn A.1 then c else M 7 i := by
        rw [← hN, zup_row (by omega)]
        by_cases h : i = pn A.1
        · rw [if_pos h, h, zup_at]
        · rw [if_neg h, zup_off h, zup_row (by omega), zup_row (by omega), zup_row (by omega), zup_row (by omega), zup_row (by omega)]
      show N 3 i = ((zfn (pK A.1) (pn A.1) k.toNat i : Nat) : Int) ∧ N 4 i = ((zfn (pT A.1) (pn A.1) (if k = 6 then 0 else d.toNat) i : Nat) : Int) ∧ N 5 i = ((zfn (pA A.1) (pn A.1) (if k = 0 then 0 else a.toNat) i : Nat) : Int) ∧ N 6 i = ((zfn (pB A.1) (pn A.1) (if k = 0 ∨ k = 5 then 0 else b.toNat) i : Nat) : Int) ∧ N 7 i = zfu (pC A.1) (pn A.1) c i
      rw [x3, x4, x5, x6, x7]
      unfold zfn zfu
      by_cases h : i = pn A.1
      · rw [if_pos h, if_pos h, if_pos h, if_pos h, if_pos h, if_pos h, if_pos h, if_pos h, if_pos h, if_pos h]
        refine ⟨by omega, ?_, ?_, ?_, rfl⟩
        · split <;> omega
        · split <;> omega
        · split <;> omega
      · rw [if_neg h, if_neg h, if_neg h, if_neg h, if_neg h, if_neg h, if_neg h, if_neg h, if_neg h, if_neg h]
        exact b4 i (by omega)
  refine zr_ret rfl ⟨rfl, ?_, row 0 (by decide) (by omega), fun q hq => row q (by omega) (by omega)⟩
  have e25 : N 25 = M 25 := row 25 (by omega) (by omega)
  have hCN : zCI N (zadd A.1 k d a b c) := by
    refine zCI_stale hC0 hBN (zadd_wf hw (by omega) hg hc) (row 33 (by omega) (by omega)) (fun i hi => ?_) (fun i h5 h6 => ?_) (row 19 (by omega) (by omega)) (row 21 (by omega) (by omega)) (by rw [r1, zup_at]) (by rw [r1, zup_off (by decide)])
    · have hi : i < pn A.1 + 1 := hi
      rw [e25]
      by_cases h : i = pn A.1
      · exact Or.inl (c5 i (by omega) (by omega))
      · exact c4 i (by omega)
    · have h5 : pn A.1 + 1 ≤ i := h5
      rw [e25]
      exact c5 i (by omega) h6
  refine ⟨hCN, fun i hi => ?_, by rw [r1, zup_off (by decide)]; exact g3, by rw [r1, zup_off (by decide)]; exact g4, by rw [row 27 (by omega) (by omega)]; exact g5, by rw [row 28 (by omega) (by omega)]; exact g6, by rw [row 29 (by omega) (by omega)]; exact g7, by rw [row 30 (by omega) (by omega)]; exact g8⟩
  have hi : i < pn A.1 + 1 := hi
  show N 25 i = zfu A.2.1 (pn A.1) (-3) i
  rw [e25]
  by_cases h : i = pn A.1
  · rw [h, zfu_at]
    exact c5 _ (Nat.le_refl _) (by omega)
  · rw [zfu_off h]
    exact g2 i (by omega)
end ZX
